/** "A KEY has no text any more: a GRAVE is PUT. Answers its NUMBER; ABSENT when it has none; ROOM; OFF." */
final class Promise04Delete extends Checks {
    private static final int GRAVE = 131072;

    /** "FORM 2, a GRAVE, without any": one part, though there are no octets. */
    static void aGraveIsOneBlockWithoutOctets() {
        CodedStore x = twoTexts();
        due("delete(1)", x.delete(1), 3);
        blockIs("the grave", x, 3, 3, 256 + GRAVE, 1);
        due("told(5)", x.told(5), 4);
    }

    static void theKeyHasNoTextAnyMore() {
        CodedStore x = twoTexts();
        x.delete(1);
        due("load(1)", x.load(1), ABSENT);
        due("told(0)", x.told(0), 1);
        due("key(0)", x.key(0), 2);
        due("load(2)", x.load(2), 1);
    }

    static void itsBlocksAreFreeThen() {
        CodedStore x = twoTexts();
        x.delete(1);
        toldAre("deleted", x, 1, 2, 62, 1);
    }

    static void nothingIsLeftOfAnOlderTextInTheGravesBlock() {
        CodedStore x = new CodedStore();
        putText(x, 1, 1, unlike(16));
        putText(x, 1, 2, 5);
        due("delete(1)", x.delete(1), 3);
        blockIs("the grave", x, 0, 3, 256 + GRAVE, 1);
    }

    static void theGraveLiesInTheLeastFreeBlock() {
        CodedStore x = twoTexts();
        due("delete(1)", x.delete(1), 3);
        due("delete(2)", x.delete(2), 4);
        blockIs("the second grave", x, 0, 4, 256 + GRAVE, 2);
    }

    static void itsNumberIsOneMoreThanTheGreatest() {
        CodedStore x = twoTexts();
        x.power(1);
        due("commit(3)", commitOf(x, 3, unlike(20)), OFF);
        x.recover();
        due("delete(1)", x.delete(1), 4);
        due("number(1)", x.number(1), -4);
    }

    /** "ABSENT when it has none" */
    static void aKeyThatNeverHadATextIsAbsent() {
        due("delete(3)", twoTexts().delete(3), ABSENT);
        due("delete(0)", twoTexts().delete(0), ABSENT);
    }

    static void aKeyWithAGraveIsAbsent() {
        CodedStore x = twoTexts();
        due("delete(1)", x.delete(1), 3);
        due("delete(1) again", x.delete(1), ABSENT);
        due("told(5)", x.told(5), 4);
    }

    static void aKeyWhoseGraveWasCleanedIsAbsent() {
        CodedStore x = twoTexts();
        x.delete(1);
        x.clean();
        due("delete(1)", x.delete(1), ABSENT);
    }

    static void aKeyWhoseTextWasCutOffIsAbsent() {
        CodedStore x = twoTexts();
        x.power(1);
        due("commit(3)", commitOf(x, 3, unlike(20)), OFF);
        x.recover();
        due("delete(3)", x.delete(3), ABSENT);
    }

    static void anEmptyTextIsATextToDelete() {
        CodedStore x = new CodedStore();
        putText(x, 0, 1);
        due("delete(0)", x.delete(0), 2);
    }

    static void absentChangesNothing() {
        CodedStore x = twoTexts();
        x.load(1);
        x.feed(3, 1);
        x.power(0);
        due("delete(3)", x.delete(3), ABSENT);
        toldAre("absent", x, 2, 3, 61, 0, 2, 3, 1, 3);
        loadedIs("absent", x, unlike(20));
        due("power(-1)", x.power(-1), 0);
    }

    static void withoutRoomAnAbsentKeyIsAbsent() {
        due("delete(4)", storeWithFree(0).delete(4), ABSENT);
    }

    static void oneFreeBlockIsRoom() {
        CodedStore x = storeWithFree(1);
        due("delete(1)", x.delete(1), 4);
        due("word(63, 1)", x.word(63, 1), 256 + GRAVE);
        due("told(2)", x.told(2), 25);
    }

    static void noFreeBlockIsNoRoom() {
        CodedStore x = storeWithFree(0);
        due("delete(1)", x.delete(1), ROOM);
        due("told(5)", x.told(5), 64);
        due("number(1)", x.number(1), 1);
        due("load(1)", x.load(1), 400);
    }

    static void withoutRoomNothingChanges() {
        CodedStore x = storeWithFree(0);
        x.load(2);
        x.feed(2, 1);
        x.power(0);
        due("delete(1)", x.delete(1), ROOM);
        toldAre("no room", x, 3, 64, 0, 0, 3, 64, 1, 2);
        due("out(319)", x.out(319), unlike(320)[319]);
        due("power(-1)", x.power(-1), 0);
    }

    static void withoutPowerTheTextStays() {
        CodedStore x = twoTexts();
        x.power(0);
        due("delete(1)", x.delete(1), OFF);
        toldAre("off", x, 2, 3, 61, 0, 2, 3, 0, 0);
        due("recover()", x.recover(), 2);
        due("load(1)", x.load(1), 20);
    }

    static void powerForOneWriteIsEnough() {
        CodedStore x = twoTexts();
        x.power(1);
        due("delete(1)", x.delete(1), 3);
        due("told(6)", x.told(6), 1);
        due("delete(2)", x.delete(2), OFF);
        due("recover()", x.recover(), 1);
    }

    static void whenOffItIsOff() {
        CodedStore x = twoTexts();
        switchOff(x);
        x.feed(2, 1);
        due("delete(1)", x.delete(1), OFF);
        toldAre("off", x, 2, 3, 61, 0, 2, 3, 0, 2);
    }

    static void whenOffAnAbsentKeyIsOff() {
        CodedStore x = twoTexts();
        switchOff(x);
        due("delete(3)", x.delete(3), OFF);
    }

    static void whenOffWithoutRoomItIsOff() {
        CodedStore x = storeWithFree(1);
        x.power(0);
        due("commit(4)", x.commit(4), OFF);
        due("delete(1)", x.delete(1), OFF);
    }

    static void theTapeIsNotRead() {
        CodedStore x = twoTexts();
        x.feed(3, 1);
        due("delete(1)", x.delete(1), 3);
        due("told(7)", x.told(7), 3);
        due("load(2)", x.load(2), 1);
    }

    static void whatWasLoadedStays() {
        CodedStore x = twoTexts();
        x.load(1);
        due("delete(1)", x.delete(1), 3);
        loadedIs("deleted", x, unlike(20));
    }

    static void anyIntIsAKey() {
        for (int key : new int[] {Integer.MIN_VALUE, -1, 0, Integer.MAX_VALUE}) {
            CodedStore x = new CodedStore();
            putText(x, key, 1, 4);
            due("delete(" + key + ")", x.delete(key), 2);
            due("word(1, 2)", x.word(1, 2), key);
            due("number(" + key + ")", x.number(key), -2);
        }
    }
}
