/** "The n lowest octets of a long, the lowest first, come behind THE TAPE. Answers its size." */
final class Promise02Feed extends Checks {
    private static void refused(CodedStore x, int n) {
        thrown("feed(" + n + ", 1)", () -> x.feed(n, 1), IllegalArgumentException.class);
    }

    private static CodedStore fedWith(int octets) {
        CodedStore x = new CodedStore();
        give(x, unlike(octets));
        return x;
    }

    /** What stands on the tape is seen in a text. */
    private static void tapeIs(CodedStore x, int... octets) {
        due("commit(1)", x.commit(1), 1);
        due("load(1)", x.load(1), octets.length);
        loadedIs("the tape", x, octets);
    }

    static void oneOctetIsTheLeast() {
        CodedStore x = new CodedStore();
        due("feed(1, 5)", x.feed(1, 5), 1);
        tapeIs(x, 5);
    }

    static void eightOctetsAreTheMost() {
        CodedStore x = new CodedStore();
        due("feed(8, ..)", x.feed(8, 0x0807060504030201L), 8);
        tapeIs(x, 1, 2, 3, 4, 5, 6, 7, 8);
    }

    /** "IllegalArgumentException: n is not 1 .. 8" */
    static void zeroOctetsAreRefused() {
        refused(new CodedStore(), 0);
    }

    static void nineOctetsAreRefused() {
        refused(new CodedStore(), 9);
    }

    static void lessThanZeroIsRefused() {
        refused(new CodedStore(), -1);
        refused(new CodedStore(), Integer.MIN_VALUE);
    }

    static void theGreatestIntIsRefused() {
        refused(new CodedStore(), Integer.MAX_VALUE);
        refused(fedWith(400), Integer.MAX_VALUE);
    }

    static void theLowestComesFirst() {
        CodedStore x = new CodedStore();
        x.feed(2, 0x0201);
        tapeIs(x, 1, 2);
    }

    static void higherOctetsThanNAreLeftOut() {
        CodedStore x = new CodedStore();
        due("feed(1, 511)", x.feed(1, 511), 1);
        due("feed(3, ..)", x.feed(3, 0x0102030405060708L), 4);
        tapeIs(x, 255, 8, 7, 6);
    }

    static void aLongLessThanZeroHasItsOctets() {
        CodedStore x = new CodedStore();
        x.feed(8, Long.MIN_VALUE);
        x.feed(2, -2L);
        tapeIs(x, 0, 0, 0, 0, 0, 0, 0, 128, 254, 255);
    }

    static void theyComeBehindWhatIsThere() {
        CodedStore x = new CodedStore();
        x.feed(2, 0x0201);
        x.feed(1, 3);
        x.feed(2, 0x0504);
        tapeIs(x, 1, 2, 3, 4, 5);
    }

    static void itAnswersTheSizeOfTheTape() {
        CodedStore x = new CodedStore();
        due("feed(3, 0)", x.feed(3, 0), 3);
        due("feed(5, 0)", x.feed(5, 0), 8);
        due("told(7)", x.told(7), 8);
    }

    /** "or there would be more than 400" */
    static void just400AreTaken() {
        due("feed(8, 1) at 392", fedWith(392).feed(8, 1), 400);
        due("feed(7, 1) at 393", fedWith(393).feed(7, 1), 400);
        due("feed(1, 1) at 399", fedWith(399).feed(1, 1), 400);
    }

    static void oneMoreThan400IsRefused() {
        refused(fedWith(393), 8);
        refused(fedWith(399), 2);
        refused(fedWith(400), 1);
    }

    static void whatWouldBeTooMuchIsRefusedWhole() {
        CodedStore x = fedWith(396);
        refused(x, 8);
        due("told(7)", x.told(7), 396);
        due("feed(4, 1)", x.feed(4, 1), 400);
    }

    /** "a call that throws .. changes nothing" */
    static void whatIsRefusedChangesNothing() {
        CodedStore x = new CodedStore();
        x.feed(2, 0x0201);
        refused(x, 0);
        refused(x, 9);
        due("told(7)", x.told(7), 2);
        due("feed(1, 3)", x.feed(1, 3), 3);
        tapeIs(x, 1, 2, 3);
    }

    static void whenOffItFeedsAsEver() {
        CodedStore x = new CodedStore();
        switchOff(x);
        due("feed(3, 1) when off", x.feed(3, 1), 3);
        refused(x, 9);
        due("told(7)", x.told(7), 3);
    }

    static void itTakesAgainWhenTheTapeWasRead() {
        CodedStore x = fedWith(400);
        refused(x, 1);
        x.pack();
        due("feed(8, 1)", x.feed(8, 1), 8);
    }

    static void itWritesNothing() {
        CodedStore x = fedWith(400);
        toldAre("fed", x, 0, 0, 64, 0, 0, 0, 1, 400);
    }
}
