/** "THE TAPE is CODED: what comes is loaded. Answers how many octets." */
final class Promise14Pack extends Checks {
    private static void codedAre(int[] text, int... coded) {
        CodedStore x = new CodedStore();
        give(x, text);
        due("pack()", x.pack(), coded.length);
        loadedIs("pack()", x, coded);
    }

    /** For long texts: how many coded octets there are, and the last ones of them. */
    private static void endIs(int[] text, int size, int... end) {
        CodedStore x = new CodedStore();
        give(x, text);
        due("pack()", x.pack(), size);
        for (int i = 0; i < end.length; i++) {
            int at = size - end.length + i;
            due("out(" + at + ")", x.out(at), end[i]);
        }
    }

    /** 250 octets, each one another. */
    private static int[] distinct() {
        return unlike(250);
    }

    static void anEmptyTapeIsNoOctets() {
        CodedStore x = twoTexts();
        x.load(1);
        due("pack()", x.pack(), 0);
        due("out(0)", x.out(0), NONE);
    }

    static void oneOctetStandsByItself() {
        codedAre(text("a"), 1, 'a');
    }

    /** "if three octets or more from there on are as those from some place before" */
    static void aRowOfThreeIsAnItemOfTwo() {
        codedAre(text("abcXabc"), 0b01111, 'a', 'b', 'c', 'X', 3, 0);
    }

    static void aRowOfTwoIsNone() {
        codedAre(text("abXab"), 0b11111, 'a', 'b', 'X', 'a', 'b');
        codedAre(text("abXabY"), 0b111111, 'a', 'b', 'X', 'a', 'b', 'Y');
    }

    static void aRowThatTheTapesEndMakesTooShortIsNone() {
        codedAre(text("abcdeXab"), 255, 'a', 'b', 'c', 'd', 'e', 'X', 'a', 'b');
        codedAre(text("aaa"), 0b111, 'a', 'a', 'a');
    }

    static void aRowMayEndWithTheTape() {
        codedAre(text("abcdXabcd"), 0b011111, 'a', 'b', 'c', 'd', 'X', 4, 1);
    }

    /** "they may run into themselves" */
    static void aRowMayRunIntoItself() {
        codedAre(text("aaaa"), 1, 'a', 0, 0);
        codedAre(text("ababababa"), 0b11, 'a', 'b', 1, 4);
    }

    static void theVeryFirstOctetsMayBeARowsOrigin() {
        codedAre(text("abcabc"), 0b111, 'a', 'b', 'c', 2, 0);
    }

    /** "at most 256 before" */
    static void aRow256BeforeIsTaken() {
        int[] start = join(distinct(), new int[] {251, 252, 253, 254, 255, 250});
        due("octets before", start.length, 256);
        endIs(join(start, text("\0\1\2")), 256 + 32 + 1 + 2, 0, 255, 0);
    }

    static void aRow257BeforeIsNot() {
        int[] start = join(distinct(), new int[] {251, 252, 253, 254, 255, 250, 255});
        due("octets before", start.length, 257);
        endIs(join(start, text("\0\1\2")), 260 + 33, 0b1111, 255, 0, 1, 2);
    }

    static void aLongerRow257BeforeGivesWayToAShorterNearOne() {
        // 0 1 2 3 stands at the beginning, 0 1 2 once more 7 before the end.
        int[] start = join(distinct(), new int[] {0, 1, 2}, new int[] {251, 252, 253, 254});
        due("octets before", start.length, 257);
        endIs(join(start, new int[] {0, 1, 2, 3}), 250 + 2 + 4 + 2 + 1 + 33, 6, 0, 1, 3);
    }

    /** "the longest such row" */
    static void theLongestRowIsTakenThoughItIsFarther() {
        codedAre(text("abcd1abc2abcd"), 0b01011111, 'a', 'b', 'c', 'd', '1', 4, 0, '2', 8, 1);
    }

    /** "of several that with the least distance" */
    static void ofSeveralTheNearestIsTaken() {
        codedAre(text("abc1abc2abc3"), 0b10101111, 'a', 'b', 'c', '1', 3, 0, '2', 3, 0, '3');
    }

    static void theLongestFromHereIsTakenNotALongerOneAPlaceOn() {
        codedAre(text("abc1bcde2abcde"),
            255, 'a', 'b', 'c', '1', 'b', 'c', 'd', 'e', 0b1101, '2', 8, 0, 'd', 'e');
    }

    /** "at most 258" */
    static void aRowOf258IsTaken() {
        codedAre(same(9, 259), 1, 9, 0, 255);
        codedAre(same(9, 258), 1, 9, 0, 254);
    }

    static void ofALongerRow258AreTaken() {
        codedAre(same(9, 260), 0b101, 9, 0, 255, 9);
        codedAre(same(9, 262), 1, 9, 0, 255, 0, 0);
    }

    /** "groups, each of a FLAG octet and up to 8 ITEMS" */
    static void eightItemsAreOneGroup() {
        codedAre(text("abcdefgh"), 255, 'a', 'b', 'c', 'd', 'e', 'f', 'g', 'h');
    }

    static void theNinthItemBeginsAGroup() {
        codedAre(text("abcdefghi"), 255, 'a', 'b', 'c', 'd', 'e', 'f', 'g', 'h', 1, 'i');
    }

    static void anItemOfTwoIsOneOfTheEight() {
        codedAre(text("abcdefabcghij"),
            0b10111111, 'a', 'b', 'c', 'd', 'e', 'f', 5, 0, 'g', 0b111, 'h', 'i', 'j');
    }

    static void anItemOfTwoMayBeginAGroup() {
        codedAre(text("abcdefghabc"), 255, 'a', 'b', 'c', 'd', 'e', 'f', 'g', 'h', 0, 7, 0);
    }

    /** "the lowest bit of the FLAG for the first one"; "Bits of a FLAG without ITEM are 0." */
    static void theLowestBitIsTheFirstItems() {
        codedAre(text("aaaaab"), 0b101, 'a', 0, 1, 'b');
    }

    static void bitsWithoutItemAreZero() {
        codedAre(text("ab"), 0b11, 'a', 'b');
        codedAre(text("abcdefg"), 0b1111111, 'a', 'b', 'c', 'd', 'e', 'f', 'g');
    }

    static void fourHundredOctetsByThemselvesAre450() {
        CodedStore x = new CodedStore();
        give(x, unlike(400));
        due("pack()", x.pack(), 450);
        due("the last flag: out(441)", x.out(441), 255);
        due("the last octet: out(449)", x.out(449), 0xAE);
        due("out(450)", x.out(450), NONE);
    }

    static void octetsAbove127() {
        codedAre(new int[] {255, 128, 255, 255, 128, 255}, 0b111, 255, 128, 255, 2, 0);
    }

    static void whatPackMakesUnpackReads() {
        int[] text = join(text("round and round "), unlike(50), text("and round it goes"), same(0, 70));
        CodedStore x = new CodedStore();
        give(x, text);
        int[] coded = new int[x.pack()];
        for (int i = 0; i < coded.length; i++) {
            coded[i] = x.out(i);
        }
        give(x, coded);
        due("unpack()", x.unpack(), text.length);
        loadedIs("unpack()", x, text);
    }

    static void theTapeIsUsedUp() {
        CodedStore x = new CodedStore();
        give(x, 1, 2, 3);
        x.pack();
        due("told(7)", x.told(7), 0);
        due("pack() of an empty tape", x.pack(), 0);
    }

    static void itWritesNothing() {
        CodedStore x = twoTexts();
        x.power(0);
        give(x, unlike(40));
        due("pack()", x.pack(), 45);
        toldAre("packed", x, 2, 3, 61, 0, 2, 3, 1, 0);
    }

    static void whenOffItPacksAsEver() {
        CodedStore x = new CodedStore();
        switchOff(x);
        give(x, 5);
        due("pack()", x.pack(), 2);
        loadedIs("pack()", x, 1, 5);
        due("told(7)", x.told(7), 0);
    }
}
