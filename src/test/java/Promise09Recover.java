/**
 * "TO RECOVER: it is on; all but THE DISK is forgotten (THE TAPE, what was loaded, place(), what was told of POWER)."
 * "RECOVERING (also with the power on). Answers how many KEYS have a text."
 */
final class Promise09Recover extends Checks {
    static void whenOffItIsOnAgain() {
        CodedStore x = twoTexts();
        switchOff(x);
        due("recover()", x.recover(), 2);
        due("told(6)", x.told(6), 1);
        due("load(1)", x.load(1), 20);
        due("clean()", x.clean(), 0);
        due("commit(3)", x.commit(3), 3);
        due("delete(3)", x.delete(3), 4);
    }

    static void withThePowerOnItForgetsToo() {
        CodedStore x = twoTexts();
        x.load(1);
        x.feed(2, 1);
        x.power(5);
        due("recover()", x.recover(), 2);
        toldAre("recovered", x, 2, 3, 61, 0, 2, 3, 1, 0);
        due("out(0)", x.out(0), NONE);
        due("power(-1)", x.power(-1), NONE);
    }

    static void anEmptyDiskHasNoTexts() {
        CodedStore x = new CodedStore();
        due("recover()", x.recover(), 0);
        switchOff(x);
        due("recover()", x.recover(), 0);
    }

    static void gravesAreNoTexts() {
        CodedStore x = twoTexts();
        x.delete(1);
        due("recover()", x.recover(), 1);
        x.delete(2);
        due("recover()", x.recover(), 0);
    }

    static void emptyTextsAreTexts() {
        CodedStore x = new CodedStore();
        putText(x, 0, 1);
        putText(x, -1, 2);
        due("recover()", x.recover(), 2);
    }

    static void textsThatWereCutOffAreNone() {
        CodedStore x = twoTexts();
        x.power(1);
        due("commit(3)", commitOf(x, 3, unlike(20)), OFF);
        due("recover()", x.recover(), 2);
        due("number(3)", x.number(3), ABSENT);
    }

    static void aTextWhoseLastPartWasTheLastWriteIsThere() {
        CodedStore x = twoTexts();
        x.power(2);
        due("commit(3)", commitOf(x, 3, unlike(20)), 3);
        due("commit(4)", x.commit(4), OFF);
        due("recover()", x.recover(), 3);
        due("load(3)", x.load(3), 20);
        loadedIs("load(3)", x, unlike(20));
    }

    static void theTapeIsForgotten() {
        CodedStore x = new CodedStore();
        x.feed(3, 1);
        x.recover();
        due("told(7)", x.told(7), 0);
        due("feed(1, 9)", x.feed(1, 9), 1);
        due("pack()", x.pack(), 2);
    }

    static void aTapeThatWasFedWhenOffIsForgotten() {
        CodedStore x = new CodedStore();
        switchOff(x);
        x.feed(3, 1);
        x.recover();
        due("told(7)", x.told(7), 0);
    }

    static void whatWasLoadedIsForgotten() {
        CodedStore x = twoTexts();
        x.load(1);
        x.recover();
        due("out(0)", x.out(0), NONE);
    }

    static void thePlaceIsForgotten() {
        CodedStore x = new CodedStore();
        give(x, 1, 5, 7, 0);
        due("unpack()", x.unpack(), NONE);
        due("place()", x.place(), 2);
        x.recover();
        due("place()", x.place(), NONE);
    }

    static void whatWasToldOfPowerIsForgotten() {
        CodedStore x = new CodedStore();
        x.power(0);
        x.recover();
        due("commit(1)", x.commit(1), 1);
        due("power(-1)", x.power(-1), NONE);
    }

    static void theDiskStays() {
        CodedStore x = twoTexts();
        x.delete(2);
        x.recover();
        due("word(0, 1)", x.word(0, 1), 512);
        due("word(1, 1)", x.word(1, 1), 513);
        due("word(2, 0)", x.word(2, 0), 2);
        due("word(3, 1)", x.word(3, 1), 131328);
        due("number(2)", x.number(2), -3);
        due("number(1)", x.number(1), 1);
        due("key(0)", x.key(0), 1);
    }

    static void partsOfWhatWasCutOffStay() {
        CodedStore x = new CodedStore();
        x.power(1);
        due("commit(1)", commitOf(x, 1, unlike(20)), OFF);
        due("recover()", x.recover(), 0);
        due("word(0, 1)", x.word(0, 1), 512);
        due("told(4)", x.told(4), 1);
    }

    static void itWritesNothing() {
        CodedStore x = twoTexts();
        x.delete(1);
        due("told(5)", x.told(5), 4);
        x.recover();
        due("told(5)", x.told(5), 4);
    }

    static void recoveredTwiceItIsTheSame() {
        CodedStore x = twoTexts();
        switchOff(x);
        due("recover()", x.recover(), 2);
        due("recover()", x.recover(), 2);
        toldAre("recovered", x, 2, 3, 61, 0, 2, 3, 1, 0);
    }

    static void aTextThatItsGravesCleaningBeganIsNotThere() {
        CodedStore x = twoTexts();
        x.delete(1);
        x.power(1);
        due("clean()", x.clean(), OFF);
        due("one part is cleaned: word(0, 0)", x.word(0, 0), 0);
        due("recover()", x.recover(), 1);
        due("number(1)", x.number(1), -3);
        due("clean()", x.clean(), 2);
    }
}
