/** "A WORD of a BLOCK. IndexOutOfBoundsException: there is none such." */
final class Promise10Word extends Checks {
    private static void refused(CodedStore x, int block, int i) {
        thrown("word(" + block + ", " + i + ")", () -> x.word(block, i), IndexOutOfBoundsException.class);
    }

    static void theFirstWordOfTheFirstBlock() {
        due("word(0, 0)", twoTexts().word(0, 0), 1);
    }

    static void theLastWordOfTheFirstBlock() {
        due("word(0, 7)", twoTexts().word(0, 7), 0x0F0E0D0C);
    }

    static void theLastWordOfTheLastBlock() {
        CodedStore x = storeWithFree(1);
        due("word(63, 7)", x.word(63, 7), 0);
        putText(x, 4, 4, unlike(16));
        due("word(63, 0)", x.word(63, 0), 4);
        due("word(63, 7)", x.word(63, 7), 0x0F0E0D0C);
    }

    static void thereIsNoBlockMinusOne() {
        refused(twoTexts(), -1, 0);
        refused(twoTexts(), -1, 7);
    }

    static void thereIsNoBlock64() {
        refused(twoTexts(), 64, 0);
        refused(twoTexts(), 64, 7);
    }

    static void thereIsNoWordMinusOne() {
        refused(twoTexts(), 0, -1);
        refused(twoTexts(), 1, -1);
        refused(twoTexts(), 63, -1);
    }

    static void thereIsNoWordEight() {
        refused(twoTexts(), 0, 8);
        refused(twoTexts(), 62, 8);
        refused(twoTexts(), 63, 8);
    }

    static void bothMayBeWrong() {
        refused(twoTexts(), -1, 8);
        refused(twoTexts(), 64, -1);
        refused(twoTexts(), -1, -1);
        refused(twoTexts(), 64, 8);
    }

    static void theLeastAndTheGreatestIntAreRefused() {
        for (int far : new int[] {Integer.MIN_VALUE, Integer.MAX_VALUE}) {
            refused(twoTexts(), far, 0);
            refused(twoTexts(), 0, far);
            refused(twoTexts(), far, far);
        }
        // 2^29 blocks of 8 words wrap round to 0.
        refused(twoTexts(), 1 << 29, 0);
    }

    static void aWordIsAnIntThatMayBeLessThanZero() {
        CodedStore x = new CodedStore();
        putText(x, -9, 1, 0, 0, 0, 128);
        due("word(0, 2)", x.word(0, 2), -9);
        due("word(0, 4)", x.word(0, 4), Integer.MIN_VALUE);
    }

    static void whatIsRefusedChangesNothing() {
        CodedStore x = twoTexts();
        x.feed(2, 1);
        refused(x, 64, 0);
        refused(x, 0, 8);
        toldAre("refused", x, 2, 3, 61, 0, 2, 3, 1, 2);
    }

    static void whenOffItAnswersAsEver() {
        CodedStore x = twoTexts();
        switchOff(x);
        due("word(1, 1)", x.word(1, 1), 513);
        refused(x, 64, 0);
    }
}
