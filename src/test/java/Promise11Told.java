/**
 * "KEYS with a text (what = 0), LIVE BLOCKS (1), FREE ones (2), GRAVES that are LIVE (3), the greatest NUMBER on THE
 * DISK (4), WRITES done so far (5), whether the power is on (6; 1 or 0), octets on THE TAPE (7).
 * IndexOutOfBoundsException: another what."
 */
final class Promise11Told extends Checks {
    private static void refused(CodedStore x, int what) {
        thrown("told(" + what + ")", () -> x.told(what), IndexOutOfBoundsException.class);
    }

    private static CodedStore cutOff() {
        CodedStore x = twoTexts();
        x.power(2);
        due("commit(3)", commitOf(x, 3, unlike(40)), OFF);
        return x;
    }

    static void minusOneIsNoWhat() {
        refused(twoTexts(), -1);
    }

    static void eightIsNoWhat() {
        refused(twoTexts(), 8);
    }

    static void theLeastAndTheGreatestIntAreNoWhat() {
        refused(twoTexts(), Integer.MIN_VALUE);
        refused(twoTexts(), Integer.MAX_VALUE);
    }

    static void whatIsRefusedChangesNothing() {
        CodedStore x = twoTexts();
        x.feed(2, 1);
        refused(x, 8);
        toldAre("refused", x, 2, 3, 61, 0, 2, 3, 1, 2);
    }

    static void whenOffItAnswersAsEver() {
        CodedStore x = twoTexts();
        x.delete(2);
        switchOff(x);
        x.feed(2, 1);
        toldAre("off", x, 1, 3, 61, 1, 3, 4, 0, 2);
        refused(x, 8);
    }

    static void keysWithAnEmptyTextAreCounted() {
        CodedStore x = new CodedStore();
        putText(x, 1, 1);
        due("told(0)", x.told(0), 1);
    }

    static void keysWithAGraveAreNotCounted() {
        CodedStore x = twoTexts();
        x.delete(1);
        due("told(0)", x.told(0), 1);
    }

    static void keysWhoseTextIsNotWholeAreNotCounted() {
        due("told(0)", cutOff().told(0), 2);
    }

    static void aKeyWithTwoTextsIsCountedOnce() {
        CodedStore x = twoTexts();
        putText(x, 1, 3, unlike(40));
        due("told(0)", x.told(0), 2);
    }

    static void sixtyFourKeysMayHaveATextEach() {
        CodedStore x = new CodedStore();
        for (int key = 0; key < 64; key++) {
            x.commit(key);
        }
        toldAre("64 texts", x, 64, 64, 0, 0, 64, 64);
        due("commit(64)", x.commit(64), ROOM);
    }

    static void allPartsOfARecordThatCountsAreLive() {
        CodedStore x = new CodedStore();
        putText(x, 1, 1, unlike(400));
        due("told(1)", x.told(1), 25);
    }

    static void blocksOfOldRecordsAreNotLive() {
        CodedStore x = twoTexts();
        putText(x, 1, 3, 1);
        due("told(1)", x.told(1), 2);
        due("told(2)", x.told(2), 62);
    }

    /** "BLOCKS of RECORDS that count are LIVE, GRAVES too" */
    static void aGraveIsLiveAndItsTextIsNot() {
        CodedStore x = twoTexts();
        x.delete(1);
        due("told(1)", x.told(1), 2);
        due("told(2)", x.told(2), 62);
    }

    static void partsOfWhatIsNotWholeAreNotLive() {
        CodedStore x = cutOff();
        due("told(1)", x.told(1), 3);
        due("told(2)", x.told(2), 61);
    }

    static void aFullDiskHasNoFreeBlock() {
        CodedStore x = storeWithFree(0);
        due("told(1)", x.told(1), 64);
        due("told(2)", x.told(2), 0);
    }

    static void anOldGraveIsNotCounted() {
        CodedStore x = twoTexts();
        x.delete(1);
        x.delete(2);
        due("told(3)", x.told(3), 2);
        putText(x, 1, 5, 1);
        due("told(3)", x.told(3), 1);
    }

    static void gravesThatWereCleanedAreNotCounted() {
        CodedStore x = twoTexts();
        x.delete(1);
        x.clean();
        due("told(3)", x.told(3), 0);
    }

    static void theGreatestNumberMayBeOfWhatIsNotWhole() {
        due("told(4)", cutOff().told(4), 3);
    }

    static void theGreatestNumberMayBeOfAGrave() {
        CodedStore x = twoTexts();
        x.delete(1);
        due("told(4)", x.told(4), 3);
    }

    static void theGreatestNumberFallsWhenItIsCleaned() {
        CodedStore x = cutOff();
        x.recover();
        x.clean();
        due("told(4)", x.told(4), 2);
    }

    static void theGreatestNumberNeedNotBeTheLastOnesBlock() {
        CodedStore x = twoTexts();
        putText(x, 1, 3, 1);
        putText(x, 2, 4, 1);
        due("it is in block 0, 3 in block 3: word(0, 0)", x.word(0, 0), 4);
        due("told(4)", x.told(4), 4);
    }

    static void eachPartIsAWrite() {
        CodedStore x = new CodedStore();
        putText(x, 1, 1, unlike(33));
        due("told(5)", x.told(5), 3);
        x.delete(1);
        due("told(5)", x.told(5), 4);
        x.clean();
        due("told(5)", x.told(5), 8);
    }

    static void theWriteThatWasNotDoneIsNotCounted() {
        CodedStore x = cutOff();
        due("told(5)", x.told(5), 5);
        x.commit(4);
        due("told(5)", x.told(5), 5);
    }

    static void writesAreNotForgottenByRecovering() {
        CodedStore x = cutOff();
        x.recover();
        due("told(5)", x.told(5), 5);
    }

    static void withoutRoomNoWriteIsCounted() {
        CodedStore x = storeWithFree(0);
        due("commit(9)", x.commit(9), ROOM);
        due("told(5)", x.told(5), 64);
    }

    static void thePowerIsOnUntilAWriteIsNotDone() {
        CodedStore x = twoTexts();
        x.power(0);
        due("told(6)", x.told(6), 1);
        x.delete(1);
        due("told(6)", x.told(6), 0);
        x.recover();
        due("told(6)", x.told(6), 1);
    }

    static void theTapeHasZeroTo400Octets() {
        CodedStore x = new CodedStore();
        due("told(7)", x.told(7), 0);
        give(x, unlike(400));
        due("told(7)", x.told(7), 400);
        x.commit(1);
        due("told(7)", x.told(7), 0);
    }
}
