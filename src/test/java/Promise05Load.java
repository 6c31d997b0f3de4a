/** "The text of a KEY is loaded. Answers how many octets; ABSENT; OFF." */
final class Promise05Load extends Checks {
    private static void comesBack(int... octets) {
        CodedStore x = new CodedStore();
        putText(x, 3, 1, octets);
        due("load(3)", x.load(3), octets.length);
        loadedIs("load(3)", x, octets);
    }

    static void anEmptyTextIsNotAbsent() {
        comesBack();
    }

    static void oneOctet() {
        comesBack(0);
        comesBack(255);
    }

    static void sixteenOctetsAndSeventeen() {
        comesBack(unlike(16));
        comesBack(unlike(17));
    }

    static void plainTextsOf400Octets() {
        comesBack(unlike(400));
    }

    static void codedTextsOf400Octets() {
        comesBack(same(200, 400));
    }

    static void codedTextsOfSeveralParts() {
        comesBack(join(unlike(100), text("round and round it goes"), unlike(100), text("round and round")));
    }

    /** "they may run into themselves" */
    static void codedTextsThatRunIntoThemselves() {
        comesBack(text("abcabcabcabcabcabcab"));
    }

    static void partsBetweenOtherTexts() {
        CodedStore x = new CodedStore();
        putText(x, 1, 1, 1);
        putText(x, 2, 2, 2);
        putText(x, 1, 3, 3);
        putText(x, 4, 4, unlike(40));
        due("word(0, 0)", x.word(0, 0), 4);
        due("word(3, 0)", x.word(3, 0), 4);
        due("load(4)", x.load(4), 40);
        loadedIs("load(4)", x, unlike(40));
    }

    static void aCodedTextOfJust400OctetsBehindAnother() {
        CodedStore x = new CodedStore();
        putText(x, 1, 1, 6);
        putText(x, 2, 2, same(1, 400));
        due("load(2)", x.load(2), 400);
        due("load(1)", x.load(1), 1);
        loadedIs("a shorter one", x, 6);
    }

    static void theNewestTextIsLoaded() {
        CodedStore x = twoTexts();
        putText(x, 1, 3, 4, 5);
        due("load(1)", x.load(1), 2);
        loadedIs("load(1)", x, 4, 5);
    }

    static void theTextOfAnotherKeyIsNot() {
        CodedStore x = twoTexts();
        due("load(2)", x.load(2), 1);
        loadedIs("load(2)", x, 7);
        due("load(1)", x.load(1), 20);
        loadedIs("load(1)", x, unlike(20));
    }

    static void anyIntIsAKey() {
        int[] keys = {Integer.MIN_VALUE, -1, 0, Integer.MAX_VALUE};
        CodedStore x = new CodedStore();
        for (int i = 0; i < keys.length; i++) {
            putText(x, keys[i], i + 1, unlike(i + 1));
        }
        for (int i = 0; i < keys.length; i++) {
            due("load(" + keys[i] + ")", x.load(keys[i]), i + 1);
        }
        due("load(1)", x.load(1), ABSENT);
    }

    static void aKeyThatNeverHadATextIsAbsent() {
        due("load(3)", twoTexts().load(3), ABSENT);
        due("load(0)", twoTexts().load(0), ABSENT);
    }

    static void aKeyWithAGraveIsAbsent() {
        CodedStore x = twoTexts();
        due("delete(1)", x.delete(1), 3);
        due("load(1)", x.load(1), ABSENT);
    }

    static void aKeyWhoseGraveWasCleanedIsAbsent() {
        CodedStore x = twoTexts();
        x.delete(1);
        x.clean();
        due("load(1)", x.load(1), ABSENT);
    }

    /** "A RECORD is WHOLE when all its PARTS are on THE DISK." */
    static void aTextThatIsNotWholeIsAbsent() {
        CodedStore x = twoTexts();
        x.power(2);
        due("commit(3)", commitOf(x, 3, unlike(40)), OFF);
        x.recover();
        due("load(3)", x.load(3), ABSENT);
    }

    static void theTextBeforeOneThatIsNotWholeIsLoaded() {
        CodedStore x = twoTexts();
        x.power(2);
        due("commit(1)", commitOf(x, 1, unlike(40)), OFF);
        x.recover();
        due("load(1)", x.load(1), 20);
        loadedIs("the old text", x, unlike(20));
    }

    /** "a call that .. answers .. ABSENT .. changes nothing" */
    static void absentLeavesWhatWasLoaded() {
        CodedStore x = twoTexts();
        x.load(2);
        due("load(3)", x.load(3), ABSENT);
        loadedIs("absent", x, 7);
    }

    static void absentLeavesTheTapeAndThePower() {
        CodedStore x = twoTexts();
        x.feed(3, 1);
        x.power(0);
        due("load(3)", x.load(3), ABSENT);
        toldAre("absent", x, 2, 3, 61, 0, 2, 3, 1, 3);
        due("power(-1)", x.power(-1), 0);
    }

    static void whenOffItIsOff() {
        CodedStore x = twoTexts();
        switchOff(x);
        x.feed(2, 1);
        due("load(1)", x.load(1), OFF);
        due("told(7)", x.told(7), 2);
    }

    static void whenOffAnAbsentKeyIsOff() {
        CodedStore x = twoTexts();
        switchOff(x);
        due("load(3)", x.load(3), OFF);
    }

    static void offLeavesWhatWasLoaded() {
        CodedStore x = twoTexts();
        x.load(2);
        switchOff(x);
        due("load(1)", x.load(1), OFF);
        loadedIs("off", x, 7);
    }

    static void powerForNoWriteIsEnough() {
        CodedStore x = twoTexts();
        x.power(0);
        due("load(1)", x.load(1), 20);
        due("told(6)", x.told(6), 1);
        due("power(-1)", x.power(-1), 0);
    }

    static void theTapeIsNotRead() {
        CodedStore x = twoTexts();
        x.feed(3, 1);
        due("load(1)", x.load(1), 20);
        due("told(7)", x.told(7), 3);
    }

    static void whatIsLoadedStaysWhenItsTextGoes() {
        CodedStore x = twoTexts();
        x.load(1);
        x.delete(1);
        x.clean();
        loadedIs("deleted and cleaned", x, unlike(20));
    }

    static void itWritesNothing() {
        CodedStore x = twoTexts();
        x.load(1);
        toldAre("loaded", x, 2, 3, 61, 0, 2, 3, 1, 0);
    }
}
