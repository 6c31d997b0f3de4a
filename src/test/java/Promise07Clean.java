import java.util.Arrays;

/**
 * "TO CLEAN: all FREE BLOCKS whose WORD 0 is not 0 become 0, in order; then those of GRAVES, in order."
 * "CLEANING. Answers how many BLOCKS became 0; OFF."
 */
final class Promise07Clean extends Checks {
    /** Graves lie in blocks 0 and 3, what does not count any more in 1 and 2. */
    private static CodedStore twoGravesAroundTwoFreeBlocks() {
        CodedStore x = new CodedStore();
        putText(x, 1, 1, 5);
        putText(x, 2, 2, unlike(20));
        due("delete(2)", x.delete(2), 3);
        putText(x, 1, 4, 6);
        due("delete(1)", x.delete(1), 5);
        return x;
    }

    static void anEmptyDiskHasNothingToClean() {
        CodedStore x = new CodedStore();
        due("clean()", x.clean(), 0);
        due("told(5)", x.told(5), 0);
    }

    static void whatCountsStays() {
        CodedStore x = twoTexts();
        due("clean()", x.clean(), 0);
        due("told(5)", x.told(5), 3);
        due("load(1)", x.load(1), 20);
        due("load(2)", x.load(2), 1);
    }

    static void aFullDiskOfTextsHasNothingToClean() {
        CodedStore x = storeWithFree(0);
        due("clean()", x.clean(), 0);
        due("told(2)", x.told(2), 0);
    }

    static void oldTextsBecomeZero() {
        CodedStore x = twoTexts();
        putText(x, 1, 3, 9);
        due("clean()", x.clean(), 2);
        blockIs("cleaned", x, 0);
        blockIs("cleaned", x, 1);
        due("load(1)", x.load(1), 1);
        loadedIs("the new text", x, 9);
        due("load(2)", x.load(2), 1);
    }

    static void partsThatAreNotOfAWholeRecordBecomeZero() {
        CodedStore x = twoTexts();
        x.power(2);
        due("commit(3)", commitOf(x, 3, unlike(40)), OFF);
        x.recover();
        due("clean()", x.clean(), 2);
        blockIs("cleaned", x, 3);
        blockIs("cleaned", x, 4);
        due("told(4)", x.told(4), 2);
    }

    static void anOldGraveBecomesZero() {
        CodedStore x = twoTexts();
        x.delete(2);
        putText(x, 2, 4, 8);
        due("word(3, 0): the grave", x.word(3, 0), 3);
        due("clean()", x.clean(), 1);
        blockIs("cleaned", x, 3);
        due("number(2)", x.number(2), 4);
    }

    static void gravesThatCountBecomeZero() {
        CodedStore x = twoTexts();
        x.delete(2);
        due("clean()", x.clean(), 2);
        blockIs("the text", x, 2);
        blockIs("the grave", x, 3);
        due("number(2)", x.number(2), ABSENT);
        due("told(3)", x.told(3), 0);
    }

    static void aGraveAloneBecomesZero() {
        CodedStore x = new CodedStore();
        putText(x, 1, 1, 5);
        putText(x, 1, 2, 5);
        due("delete(1)", x.delete(1), 3);
        x.power(1);
        due("clean()", x.clean(), OFF);
        x.recover();
        due("the grave alone is there: told(4)", x.told(4), 3);
        due("clean()", x.clean(), 1);
        due("told(4)", x.told(4), 0);
    }

    static void itAnswersHowManyBecameZero() {
        CodedStore x = twoGravesAroundTwoFreeBlocks();
        due("clean()", x.clean(), 4);
        toldAre("cleaned", x, 0, 0, 64, 0, 0, 10, 1, 0);
    }

    static void blocksThatAreZeroAreNotWritten() {
        CodedStore x = twoTexts();
        x.delete(2);
        due("told(5)", x.told(5), 4);
        due("clean()", x.clean(), 2);
        due("told(5)", x.told(5), 6);
    }

    static void cleanedTwiceThereIsNothing() {
        CodedStore x = twoGravesAroundTwoFreeBlocks();
        due("clean()", x.clean(), 4);
        due("clean() again", x.clean(), 0);
        due("told(5)", x.told(5), 10);
    }

    static void allEightWordsBecomeZero() {
        CodedStore x = new CodedStore();
        putText(x, -1, 1, same(255, 2));
        putText(x, -1, 2, unlike(16));
        putText(x, -1, 3, 1);
        due("clean()", x.clean(), 1);
        blockIs("cleaned", x, 1);
    }

    static void aDiskFullOfGravesIsCleaned() {
        CodedStore x = new CodedStore();
        putText(x, 0, 1);
        for (int number = 2; number <= 127; number += 2) {
            due("delete", x.delete(number / 2 - 1), number);
            due("commit", x.commit(number / 2), number + 1);
        }
        // Each round leaves a grave that counts, and the last one a text beside 63 graves.
        due("told(3)", x.told(3), 63);
        due("told(0)", x.told(0), 1);
        due("no block is free", x.told(2), 0);
        due("clean()", x.clean(), 63);
        toldAre("cleaned", x, 1, 1, 63, 0);
    }

    /** "in order; then those of GRAVES, in order": the power goes behind each. */
    private static void cut(int n, int... cleaned) {
        CodedStore x = twoGravesAroundTwoFreeBlocks();
        x.power(n);
        due("clean() with power " + n, x.clean(), n < 4 ? OFF : 4);
        for (int block = 0; block < 4; block++) {
            int b = block;
            boolean isDue = Arrays.stream(cleaned).anyMatch(c -> c == b);
            due("power " + n + ": block " + b + " is 0", x.word(b, 0) == 0 ? 1 : 0, isDue ? 1 : 0);
        }
        due("told(5) with power " + n, x.told(5), 6 + Math.min(n, 4));
        due("told(6) with power " + n, x.told(6), n < 4 ? 0 : 1);
        due("no text comes back", x.recover(), 0);
        due("clean() takes the rest", x.clean(), 4 - Math.min(n, 4));
    }

    static void withoutPowerNothingIsCleaned() {
        cut(0);
    }

    static void theFirstIsTheLeastFreeBlock() {
        cut(1, 1);
    }

    static void gravesComeBehindAllFreeBlocks() {
        cut(2, 1, 2);
    }

    static void theFirstGraveIsTheOneInTheLeastBlock() {
        cut(3, 0, 1, 2);
    }

    static void powerForJustSoManyIsEnough() {
        cut(4, 0, 1, 2, 3);
    }

    static void powerForMoreIsEnough() {
        cut(5, 0, 1, 2, 3);
    }

    static void withNothingToCleanNoPowerIsNeeded() {
        CodedStore x = twoTexts();
        x.power(0);
        due("clean()", x.clean(), 0);
        due("told(6)", x.told(6), 1);
    }

    static void whenOffItIsOff() {
        CodedStore x = twoGravesAroundTwoFreeBlocks();
        switchOff(x);
        x.feed(2, 1);
        due("clean()", x.clean(), OFF);
        toldAre("off", x, 0, 2, 62, 2, 5, 6, 0, 2);
    }

    static void whenOffWithNothingToCleanItIsOff() {
        CodedStore x = new CodedStore();
        switchOff(x);
        due("clean()", x.clean(), OFF);
    }

    static void numbersFallWhenTheGreatestIsCleaned() {
        CodedStore x = twoTexts();
        due("delete(2)", x.delete(2), 3);
        due("clean()", x.clean(), 2);
        due("told(4)", x.told(4), 1);
        due("commit(3)", x.commit(3), 2);
        due("word(2, 0)", x.word(2, 0), 2);
    }

    static void theTapeAndWhatWasLoadedStay() {
        CodedStore x = twoGravesAroundTwoFreeBlocks();
        give(x, 1, 66);
        x.unpack();
        x.feed(3, 1);
        due("clean()", x.clean(), 4);
        due("told(7)", x.told(7), 3);
        loadedIs("cleaned", x, 66);
    }
}
