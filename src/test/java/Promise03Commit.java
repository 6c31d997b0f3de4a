/** "THE TAPE becomes the text of a KEY: a RECORD is PUT. Answers its NUMBER; ROOM; OFF." */
final class Promise03Commit extends Checks {
    private static final int CODED = 65536;
    private static final int GRAVE = 131072;

    /** The one part of the first text on a new disk. */
    private static CodedStore committed(int... octets) {
        CodedStore x = new CodedStore();
        putText(x, 5, 1, octets);
        return x;
    }

    private static int sum(CodedStore x, int i, int parts) {
        int sum = 0;
        for (int block = 0; block < parts; block++) {
            sum += x.word(block, i);
        }
        return sum;
    }

    static void anEmptyTapeIsAnEmptyText() {
        CodedStore x = committed();
        blockIs("an empty text", x, 0, 1, 256, 5, 0);
        due("load(5)", x.load(5), 0);
        due("told(0)", x.told(0), 1);
    }

    static void oneOctetIsAText() {
        blockIs("one octet", committed(9), 0, 1, 256, 5, 1, 9);
    }

    /** "FORM 1 with the CODED octets, if these are less than the text's" */
    static void oneCodedOctetLessIsForm1() {
        blockIs("4 coded octets of 5", committed(text("aaaaa")), 0, 1, 256 + CODED, 5, 4, 0x01006101);
    }

    /** "or FORM 0 with the octets themselves" */
    static void asManyCodedOctetsAreForm0() {
        blockIs("4 coded octets of 4", committed(text("aaaa")), 0, 1, 256, 5, 4, 0x61616161);
    }

    static void moreCodedOctetsAreForm0() {
        blockIs("4 coded octets of 3", committed(text("abc")), 0, 1, 256, 5, 3, 0x636261);
    }

    /** "PARTS: one for each 16 of its octets, one at least" */
    static void sixteenOctetsAreOnePart() {
        blockIs("16", committed(unlike(16)), 0, 1, 256, 5, 16, 0x03020100, 0x07060504, 0x0B0A0908, 0x0F0E0D0C);
        due("told(5)", committed(unlike(16)).told(5), 1);
        due("told(5)", committed(unlike(15)).told(5), 1);
    }

    static void seventeenOctetsAreTwoParts() {
        CodedStore x = committed(unlike(17));
        blockIs("17", x, 0, 1, 512, 5, 17, 0x03020100, 0x07060504, 0x0B0A0908, 0x0F0E0D0C);
        blockIs("17", x, 1, 1, 513, 5, 17, 16);
        due("told(5)", x.told(5), 2);
    }

    static void thirtyTwoAreTwoPartsAndOneMoreAreThree() {
        due("32 octets: told(5)", committed(unlike(32)).told(5), 2);
        due("33 octets: told(5)", committed(unlike(33)).told(5), 3);
    }

    static void fourHundredOctetsAre25Parts() {
        CodedStore x = committed(unlike(400));
        due("told(5)", x.told(5), 25);
        due("the last part", x.word(24, 1), 24 + 256 * 25);
        due("its octets in all", x.word(24, 3), 400);
        due("the last octets", x.word(24, 7), 0xAEABA8A5);
        due("told(1)", x.told(1), 25);
    }

    static void theCodedOctetsMakeTheParts() {
        // 400 alike: a flag, an octet and two rows.
        blockIs("400 alike", committed(same(9, 400)), 0, 1, 256 + CODED, 5, 6, 0xFF000901, 0x8A00);
        // 12 octets by themselves and a row are 13 items behind two flags.
        CodedStore x = committed(join(unlike(12), unlike(12)));
        due("16 coded octets", x.word(0, 3), 16);
        due("are one part", x.told(5), 1);
        CodedStore y = committed(join(unlike(13), unlike(13)));
        due("17 coded octets", y.word(0, 3), 17);
        due("are two parts", y.told(5), 2);
        due("word(1, 1)", y.word(1, 1), 1 + 512 + CODED);
        due("word(1, 4)", y.word(1, 4), 10);
    }

    /** "2 the KEY" */
    static void anyIntIsAKey() {
        for (int key : new int[] {Integer.MIN_VALUE, -1, 0, 1, Integer.MAX_VALUE}) {
            CodedStore x = new CodedStore();
            due("commit(" + key + ")", commitOf(x, key, 3), 1);
            due("word(0, 2)", x.word(0, 2), key);
            due("number(" + key + ")", x.number(key), 1);
            due("key(0)", x.key(0), key);
        }
    }

    /** "3 how many octets it has in all": in each part. */
    static void eachPartTellsTheOctetsInAll() {
        CodedStore x = committed(unlike(40));
        due("word(.., 3) of three parts", sum(x, 3, 3), 120);
        due("word(.., 0)", sum(x, 0, 3), 3);
        due("word(.., 2)", sum(x, 2, 3), 15);
        due("word(.., 1)", sum(x, 1, 3), 3 * 768 + 0 + 1 + 2);
    }

    /** "four in a WORD, the first one the lowest" */
    static void theFirstOctetIsTheLowestOfAWord() {
        blockIs("octets", committed(1, 2, 3, 128, 255), 0, 1, 256, 5, 5, 0x80030201, 255);
    }

    /** "0 behind the last one"; "A WRITE puts 8 WORDS into a BLOCK" */
    static void behindTheLastOctetNothingIsLeftOfAnOlderText() {
        CodedStore x = committed(unlike(16));
        putText(x, 5, 2, unlike(16));
        putText(x, 5, 3, 200);
        blockIs("where a longer text was", x, 0, 3, 256, 5, 1, 200);
    }

    /** "NUMBERS are 1, 2, 3 .." */
    static void theFirstNumberIs1() {
        CodedStore x = new CodedStore();
        for (int number = 1; number <= 5; number++) {
            due("commit(0)", x.commit(0), number);
        }
    }

    /** "one more than the greatest in any BLOCK's WORD 0": it may be of a record that is not whole. */
    static void thePartsThatWereCutOffHaveNumbersToo() {
        CodedStore x = committed(1);
        x.power(2);
        due("commit(6)", commitOf(x, 6, unlike(40)), OFF);
        x.recover();
        due("commit(7)", x.commit(7), 3);
    }

    static void aCommitThatWroteNothingLeavesItsNumber() {
        CodedStore x = committed(1);
        x.power(0);
        due("commit(6)", commitOf(x, 6, unlike(40)), OFF);
        x.recover();
        due("commit(7)", x.commit(7), 2);
    }

    static void numbersBeginAnewOnADiskThatWasCleaned() {
        CodedStore x = committed(1);
        due("delete(5)", x.delete(5), 2);
        due("clean()", x.clean(), 2);
        due("commit(5)", x.commit(5), 1);
    }

    static void theLastPartOfWhatWasCutOffHasItsNumberStill() {
        CodedStore x = committed(1);
        x.power(2);
        due("commit(6)", commitOf(x, 6, unlike(40)), OFF);
        x.recover();
        x.power(1);
        due("clean()", x.clean(), OFF);
        due("part 0 is cleaned: word(1, 0)", x.word(1, 0), 0);
        x.recover();
        due("commit(7)", x.commit(7), 3);
    }

    /** "into the FREE BLOCKS with the least numbers, in order" */
    static void theLeastFreeBlocksAreTaken() {
        CodedStore x = new CodedStore();
        putText(x, 1, 1, 1);
        putText(x, 2, 2, unlike(20));
        putText(x, 3, 3, 3);
        putText(x, 1, 4, 4);
        putText(x, 3, 5, 5);
        due("key 1 left block 0 and key 3 took it: word(0, 0)", x.word(0, 0), 5);
        // Free are 3 and all from 5 on.
        putText(x, 4, 6, unlike(40));
        blockIs("part 0", x, 3, 6, 768, 4, 40, 0x03020100, 0x07060504, 0x0B0A0908, 0x0F0E0D0C);
        blockIs("part 1", x, 5, 6, 769, 4, 40, 0x13121110, 0x17161514, 0x1B1A1918, 0x1F1E1D1C);
        blockIs("part 2", x, 6, 6, 770, 4, 40, 0x23222120, 0x27262524);
        due("load(4)", x.load(4), 40);
        loadedIs("load(4)", x, unlike(40));
    }

    static void theOldTextsBlocksAreNotFreeYet() {
        CodedStore x = committed(unlike(20));
        putText(x, 5, 2, unlike(20));
        due("word(0, 0)", x.word(0, 0), 1);
        due("word(2, 0)", x.word(2, 0), 2);
        putText(x, 5, 3, 1);
        due("word(0, 0)", x.word(0, 0), 3);
    }

    static void theLongestTextMayBeReplacedAgainAndAgain() {
        CodedStore x = new CodedStore();
        for (int number = 1; number <= 5; number++) {
            putText(x, 1, number, unlike(400));
            due("told(2)", x.told(2), 39);
        }
        due("the first blocks were used again: word(0, 0)", x.word(0, 0), 5);
        due("word(25, 0)", x.word(25, 0), 4);
    }

    static void aGraveGivesWayToAText() {
        CodedStore x = committed(1);
        due("delete(5)", x.delete(5), 2);
        blockIs("the grave", x, 1, 2, 256 + GRAVE, 5);
        putText(x, 5, 3, 8);
        toldAre("a text again", x, 1, 1, 63, 0, 3, 3);
        due("number(5)", x.number(5), 3);
    }

    /** "without so many there is no ROOM, and nothing is WRITTEN" */
    static void justSoManyFreeBlocksAreRoom() {
        CodedStore x = storeWithFree(2);
        putText(x, 4, 4, unlike(32));
        due("told(2)", x.told(2), 0);
        due("word(63, 1)", x.word(63, 1), 513);
    }

    static void oneFreeBlockTooFewIsNoRoom() {
        CodedStore x = storeWithFree(2);
        due("33 octets into two blocks", commitOf(x, 4, unlike(33)), ROOM);
        due("told(5)", x.told(5), 62);
        blockIs("nothing is written", x, 62);
        blockIs("nothing is written", x, 63);
        due("number(4)", x.number(4), ABSENT);
        due("told(4)", x.told(4), 3);
        putText(x, 4, 4, unlike(32));
    }

    static void noFreeBlockIsNoRoomForAnEmptyText() {
        CodedStore x = storeWithFree(0);
        due("commit(4)", x.commit(4), ROOM);
        due("told(5)", x.told(5), 64);
    }

    static void theOldTextsBlocksAreNoRoom() {
        CodedStore x = storeWithFree(0);
        due("a shorter text of key 1", commitOf(x, 1, 1), ROOM);
        due("number(1)", x.number(1), 1);
        due("load(1)", x.load(1), 400);
        due("out(399)", x.out(399), 0xAE);
    }

    static void blocksThatOnceBoreATextAreRoom() {
        CodedStore x = storeWithFree(1);
        putText(x, 3, 4);
        due("told(2)", x.told(2), 18);
        putText(x, 4, 5, unlike(288));
        due("told(2)", x.told(2), 0);
    }

    /** "a call that .. answers .. ROOM, changes nothing (but for .. THE TAPE, where it is read)" */
    static void withoutRoomTheTapeIsUsedUp() {
        CodedStore x = storeWithFree(0);
        give(x, 1, 2, 3);
        due("commit(4)", x.commit(4), ROOM);
        due("told(7)", x.told(7), 0);
    }

    static void withoutRoomWhatWasLoadedStays() {
        CodedStore x = storeWithFree(0);
        give(x, 1, 77);
        due("unpack()", x.unpack(), 1);
        due("commit(4)", commitOf(x, 4, 1, 2), ROOM);
        loadedIs("no room", x, 77);
    }

    static void withoutRoomThePowerStays() {
        CodedStore x = storeWithFree(0);
        x.power(0);
        due("commit(4)", x.commit(4), ROOM);
        due("told(6)", x.told(6), 1);
        due("power(-1)", x.power(-1), 0);
    }

    /** "what reads it uses it up" */
    static void theTapeIsUsedUp() {
        CodedStore x = committed(1, 2, 3);
        due("told(7)", x.told(7), 0);
        putText(x, 6, 2, 4);
        due("load(6)", x.load(6), 1);
        loadedIs("only what came since", x, 4);
    }

    static void whatWasLoadedStays() {
        CodedStore x = committed(1, 2, 3);
        x.load(5);
        putText(x, 5, 2, 9, 9);
        loadedIs("after a commit", x, 1, 2, 3);
    }

    /** "the one behind these is not done, and the power is off: what was being done ends there with OFF" */
    static void thePowerGoesBetweenAnyTwoParts() {
        for (int n = 0; n <= 3; n++) {
            CodedStore x = committed(9);
            x.power(n);
            due("commit with power " + n, commitOf(x, 5, unlike(40)), n < 3 ? OFF : 2);
            due("told(6)", x.told(6), n < 3 ? 0 : 1);
            due("told(5)", x.told(5), 1 + n);
            for (int p = 0; p < 3; p++) {
                due("part " + p + " with power " + n, x.word(1 + p, 1), p < n ? p + 768 : 0);
            }
            due("number(5)", x.number(5), n < 3 ? 1 : 2);
            due("recover()", x.recover(), 1);
            due("load(5)", x.load(5), n < 3 ? 1 : 40);
        }
    }

    static void aNewTextThatWasCutOffIsNotThere() {
        CodedStore x = new CodedStore();
        x.power(1);
        due("commit(1)", commitOf(x, 1, unlike(20)), OFF);
        due("number(1)", x.number(1), ABSENT);
        due("recover()", x.recover(), 0);
        due("load(1)", x.load(1), ABSENT);
        due("told(2)", x.told(2), 64);
    }

    static void aTextThatIsCutOffBehindAGraveLeavesTheGrave() {
        CodedStore x = committed(1);
        due("delete(5)", x.delete(5), 2);
        x.power(1);
        due("commit(5)", commitOf(x, 5, unlike(20)), OFF);
        due("number(5)", x.number(5), -2);
        due("recover()", x.recover(), 0);
        due("told(3)", x.told(3), 1);
    }

    static void whatWasCutOffHasReadTheTape() {
        CodedStore x = new CodedStore();
        x.power(0);
        due("commit(1)", commitOf(x, 1, 1, 2), OFF);
        due("told(7)", x.told(7), 0);
    }

    static void thePartsOfWhatWasCutOffAreWrittenOver() {
        CodedStore x = new CodedStore();
        x.power(2);
        due("commit(1)", commitOf(x, 1, unlike(40)), OFF);
        x.recover();
        putText(x, 2, 2, 7);
        blockIs("over a part", x, 0, 2, 256, 2, 1, 7);
        due("the other part stays", x.word(1, 1), 769);
    }

    /** "all that is named with OFF answers it then, and does nothing (THE TAPE stays)" */
    static void whenOffNothingIsDone() {
        CodedStore x = committed(1);
        switchOff(x);
        x.feed(2, 3);
        due("commit(5)", x.commit(5), OFF);
        due("told(7)", x.told(7), 2);
        due("told(5)", x.told(5), 1);
        due("word(1, 0)", x.word(1, 0), 0);
    }

    static void whenOffWithoutRoomItIsOff() {
        CodedStore x = storeWithFree(1);
        x.power(0);
        due("commit(4)", x.commit(4), OFF);
        give(x, unlike(20));
        due("commit(4)", x.commit(4), OFF);
        due("told(7)", x.told(7), 20);
    }
}
