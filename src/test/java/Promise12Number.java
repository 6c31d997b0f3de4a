/** "The NUMBER of the RECORD of a KEY that counts; ABSENT when there is none; a GRAVE's, less than 0." */
final class Promise12Number extends Checks {
    static void aKeyThatNeverHadATextIsAbsent() {
        due("number(3)", twoTexts().number(3), ABSENT);
        due("number(0)", twoTexts().number(0), ABSENT);
    }

    static void onAnEmptyDiskAllAreAbsent() {
        due("number(0)", new CodedStore().number(0), ABSENT);
    }

    static void aTextsNumber() {
        CodedStore x = twoTexts();
        due("number(1)", x.number(1), 1);
        due("number(2)", x.number(2), 2);
    }

    static void anEmptyTextsNumber() {
        CodedStore x = new CodedStore();
        putText(x, 0, 1);
        due("number(0)", x.number(0), 1);
    }

    /** "Of each KEY the WHOLE RECORD with the greatest NUMBER counts" */
    static void theGreatestNumberCounts() {
        CodedStore x = twoTexts();
        putText(x, 1, 3, 5);
        due("number(1)", x.number(1), 3);
        putText(x, 1, 4, 5);
        due("in a block before: word(0, 0)", x.word(0, 0), 4);
        due("number(1)", x.number(1), 4);
    }

    static void aGravesNumberIsLessThanZero() {
        CodedStore x = twoTexts();
        x.delete(1);
        due("number(1)", x.number(1), -3);
        due("number(2)", x.number(2), 2);
    }

    static void aGraveThatGaveWayCountsNoMore() {
        CodedStore x = twoTexts();
        x.delete(1);
        putText(x, 1, 4, 5);
        due("number(1)", x.number(1), 4);
    }

    static void aGraveThatWasCleanedIsAbsent() {
        CodedStore x = twoTexts();
        x.delete(1);
        x.clean();
        due("number(1)", x.number(1), ABSENT);
    }

    static void whatIsNotWholeDoesNotCount() {
        CodedStore x = twoTexts();
        x.power(2);
        due("commit(1)", commitOf(x, 1, unlike(40)), OFF);
        due("number(1)", x.number(1), 1);
        x.recover();
        due("number(1)", x.number(1), 1);
    }

    static void aKeyWithoutAWholeRecordIsAbsent() {
        CodedStore x = twoTexts();
        x.power(2);
        due("commit(3)", commitOf(x, 3, unlike(40)), OFF);
        due("number(3)", x.number(3), ABSENT);
    }

    static void anyIntIsAKey() {
        CodedStore x = new CodedStore();
        putText(x, Integer.MIN_VALUE, 1, 1);
        putText(x, Integer.MAX_VALUE, 2, 1);
        putText(x, -1, 3, 1);
        due("number(least)", x.number(Integer.MIN_VALUE), 1);
        due("number(greatest)", x.number(Integer.MAX_VALUE), 2);
        due("number(-1)", x.number(-1), 3);
        due("number(0)", x.number(0), ABSENT);
    }

    static void whenOffItAnswersAsEver() {
        CodedStore x = twoTexts();
        x.delete(2);
        switchOff(x);
        due("number(1)", x.number(1), 1);
        due("number(2)", x.number(2), -3);
        due("number(3)", x.number(3), ABSENT);
    }

    static void askingChangesNothing() {
        CodedStore x = twoTexts();
        x.load(2);
        x.feed(2, 1);
        due("number(3)", x.number(3), ABSENT);
        toldAre("asked", x, 2, 3, 61, 0, 2, 3, 1, 2);
        loadedIs("asked", x, 7);
    }
}
