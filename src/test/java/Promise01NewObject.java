/** "CodedStore(): Nothing is there, the power is on." */
final class Promise01NewObject extends Checks {
    /** "THE DISK has 64 BLOCKS of 8 WORDS (ints), at first all 0." */
    static void everyWordIsZero() {
        CodedStore x = new CodedStore();
        int others = 0;
        for (int i = 0; i < 512; i++) {
            others += x.word(i / 8, i % 8) == 0 ? 0 : 1;
        }
        due("words that are not 0", others, 0);
    }

    static void noKeyHasAText() {
        CodedStore x = new CodedStore();
        due("told(0)", x.told(0), 0);
        due("key(0)", x.key(0), 0);
        due("number(0)", x.number(0), ABSENT);
        due("load(0)", x.load(0), ABSENT);
        due("delete(0)", x.delete(0), ABSENT);
    }

    static void recoveringFindsNoText() {
        due("recover()", new CodedStore().recover(), 0);
    }

    static void noBlockIsLive() {
        due("told(1)", new CodedStore().told(1), 0);
    }

    static void allBlocksAreFree() {
        due("told(2)", new CodedStore().told(2), 64);
    }

    static void noGraveIsThere() {
        due("told(3)", new CodedStore().told(3), 0);
    }

    static void noNumberIsOnTheDisk() {
        due("told(4)", new CodedStore().told(4), 0);
    }

    static void noWriteWasDone() {
        due("told(5)", new CodedStore().told(5), 0);
    }

    static void thePowerIsOn() {
        CodedStore x = new CodedStore();
        due("told(6)", x.told(6), 1);
        due("load(1)", x.load(1), ABSENT);
        due("clean()", x.clean(), 0);
        due("commit(1)", x.commit(1), 1);
    }

    static void nothingWasToldOfPower() {
        due("power(5)", new CodedStore().power(5), NONE);
    }

    static void theTapeIsEmpty() {
        due("told(7)", new CodedStore().told(7), 0);
    }

    static void nothingIsLoaded() {
        due("out(0)", new CodedStore().out(0), NONE);
    }

    static void noPlaceIsKnown() {
        due("place()", new CodedStore().place(), NONE);
    }

    static void twoObjectsShareNothing() {
        CodedStore x = twoTexts();
        x.feed(3, 1);
        x.load(1);
        toldAre("another object", new CodedStore(), 0, 0, 64, 0, 0, 0, 1, 0);
        due("out(0) of another", new CodedStore().out(0), NONE);
        due("word(0, 0) of another", new CodedStore().word(0, 0), 0);
    }

    /** "NONE = -1, ABSENT = -2, ROOM = -3, OFF = -4" */
    static void theConstants() {
        due("NONE", CodedStore.NONE, -1);
        due("ABSENT", CodedStore.ABSENT, -2);
        due("ROOM", CodedStore.ROOM, -3);
        due("OFF", CodedStore.OFF, -4);
    }

    /** "An object is used for at most 512 calls after it has been made" */
    static void the512thCallIsAnsweredStill() {
        CodedStore x = new CodedStore();
        int wrongNumbers = 0;
        for (int call = 1; call <= 511; call++) {
            wrongNumbers += x.commit(call % 2) == call ? 0 : 1;
        }
        due("numbers that are not as due", wrongNumbers, 0);
        due("call 512: told(4)", x.told(4), 511);
    }
}
