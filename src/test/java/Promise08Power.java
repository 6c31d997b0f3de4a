/**
 * "So many WRITES are done yet (NONE: the power stays). Answers what was told before, less those that were done
 * since; NONE when nothing was."
 */
final class Promise08Power extends Checks {
    private static void refused(CodedStore x, int n) {
        thrown("power(" + n + ")", () -> x.power(n), IllegalArgumentException.class);
    }

    private static void refusedWhenOff(CodedStore x, int n) {
        thrown("power(" + n + ") when off", () -> x.power(n), IllegalStateException.class);
    }

    /** "NONE when nothing was" */
    static void nothingWasToldAtFirst() {
        due("power(7)", new CodedStore().power(7), NONE);
    }

    static void itAnswersWhatWasToldBefore() {
        CodedStore x = new CodedStore();
        x.power(7);
        due("power(3)", x.power(3), 7);
        due("power(3)", x.power(3), 3);
    }

    static void lessTheWritesThatWereDoneSince() {
        CodedStore x = twoTexts();
        x.power(9);
        putText(x, 3, 3, unlike(40));
        due("after three parts", x.power(9), 6);
        x.delete(2);
        due("after a grave", x.power(9), 8);
        due("clean()", x.clean(), 2);
        due("after two cleaned", x.power(9), 7);
    }

    static void whenAllWereDoneItAnswersZero() {
        CodedStore x = new CodedStore();
        x.power(2);
        putText(x, 1, 1, unlike(20));
        due("told(6)", x.told(6), 1);
        due("power(-1)", x.power(-1), 0);
    }

    static void noneMeansThatThePowerStays() {
        CodedStore x = new CodedStore();
        x.power(0);
        due("power(-1)", x.power(-1), 0);
        putText(x, 1, 1, unlike(400));
        due("power(-1)", x.power(-1), NONE);
        due("told(6)", x.told(6), 1);
    }

    /** "IllegalArgumentException: n is not -1 .. 1000" */
    static void minusOneIsTheLeast() {
        CodedStore x = new CodedStore();
        due("power(-1)", x.power(-1), NONE);
        refused(x, -2);
    }

    static void aThousandIsTheMost() {
        CodedStore x = new CodedStore();
        due("power(1000)", x.power(1000), NONE);
        refused(x, 1001);
        putText(x, 1, 1, 1);
        due("power(999)", x.power(999), 999);
    }

    static void theLeastAndTheGreatestIntAreRefused() {
        refused(new CodedStore(), Integer.MIN_VALUE);
        refused(new CodedStore(), Integer.MAX_VALUE);
    }

    static void whatIsRefusedChangesNothing() {
        CodedStore x = new CodedStore();
        x.power(4);
        refused(x, -2);
        refused(x, 1001);
        due("power(-1)", x.power(-1), 4);
    }

    static void zeroMeansThatTheNextWriteIsNotDone() {
        CodedStore x = twoTexts();
        x.power(0);
        due("told(6)", x.told(6), 1);
        due("delete(1)", x.delete(1), OFF);
        due("told(6)", x.told(6), 0);
        due("told(5)", x.told(5), 3);
    }

    static void theWritesOfSeveralCallsAreCounted() {
        CodedStore x = new CodedStore();
        x.power(3);
        putText(x, 1, 1, unlike(20));
        due("delete(1)", x.delete(1), 2);
        due("commit(2)", x.commit(2), OFF);
        due("told(5)", x.told(5), 3);
    }

    static void whatIsToldAnewCountsAlone() {
        CodedStore x = new CodedStore();
        x.power(5);
        x.power(1);
        putText(x, 1, 1, 3);
        due("commit(2)", x.commit(2), OFF);
    }

    static void callsThatWriteNothingNeedNoPower() {
        CodedStore x = twoTexts();
        x.power(0);
        x.feed(2, 1);
        x.load(1);
        x.delete(9);
        x.clean();
        x.pack();
        x.unpack();
        due("told(6)", x.told(6), 1);
        due("power(-1)", x.power(-1), 0);
    }

    /** "IllegalStateException: the power is off." */
    static void whenOffItIsRefused() {
        CodedStore x = new CodedStore();
        switchOff(x);
        refusedWhenOff(x, 0);
        refusedWhenOff(x, 5);
        refusedWhenOff(x, 1000);
        due("told(6)", x.told(6), 0);
    }

    static void whenOffMinusOneIsRefused() {
        CodedStore x = new CodedStore();
        switchOff(x);
        refusedWhenOff(x, -1);
        due("told(6)", x.told(6), 0);
        due("load(1)", x.load(1), OFF);
    }

    /** "the one named first when several would do" */
    static void whenOffAWrongNumberIsNamedFirst() {
        CodedStore x = new CodedStore();
        switchOff(x);
        refused(x, -2);
        refused(x, 1001);
        refused(x, Integer.MIN_VALUE);
    }

    static void whatWasToldWhenOffIsNotKept() {
        CodedStore x = new CodedStore();
        switchOff(x);
        refusedWhenOff(x, 5);
        x.recover();
        due("power(-1)", x.power(-1), NONE);
    }

    static void recoveringForgetsWhatWasTold() {
        CodedStore x = new CodedStore();
        x.power(5);
        x.recover();
        due("power(6)", x.power(6), NONE);
        switchOff(x);
        x.recover();
        due("power(6)", x.power(6), NONE);
    }

    static void itIsNoWrite() {
        CodedStore x = new CodedStore();
        x.power(5);
        x.power(6);
        due("told(5)", x.told(5), 0);
        due("power(6)", x.power(6), 6);
    }
}
