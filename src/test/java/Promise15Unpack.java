/**
 * "THE TAPE is read as CODED octets: what they tell is loaded. Answers how many octets; NONE, the first time: at the
 * tape's size, if it ends in an ITEM of two; else at the first octet of an ITEM that goes back before the beginning, or
 * with which there would be more than 400; at a FLAG behind which there is nothing, or, behind its ITEMS, that has a
 * bit for one that is not there (see place())."
 */
final class Promise15Unpack extends Checks {
    private static final int[] GROUP = {255, 1, 2, 3, 4, 5, 6, 7, 8};

    private static void isRead(int[] coded, int... text) {
        CodedStore x = new CodedStore();
        give(x, coded);
        due("unpack()", x.unpack(), text.length);
        loadedIs("unpack()", x, text);
        due("place()", x.place(), NONE);
        due("told(7)", x.told(7), 0);
    }

    private static void faultAt(int place, int... coded) {
        CodedStore x = new CodedStore();
        give(x, coded);
        due("unpack()", x.unpack(), NONE);
        due("place()", x.place(), place);
    }

    private static int[] octets(int... octets) {
        return octets;
    }

    /** The coded octets of 0, 1, 2 .., each by itself; in a last group that is not full all bits are set all the same. */
    private static int[] singles(int size) {
        int[] coded = new int[size + (size + 7) / 8];
        for (int i = 0; i < size; i++) {
            coded[i / 8 * 9] = 255;
            coded[i / 8 * 9 + 1 + i % 8] = i;
        }
        return coded;
    }

    static void anEmptyTapeIsAnEmptyText() {
        isRead(octets());
    }

    static void oneItemIsEnough() {
        isRead(octets(1, 'a'), 'a');
    }

    static void bitsWithoutItemMayBeZero() {
        isRead(octets(0b11, 'a', 'b'), 'a', 'b');
    }

    static void eightItemsEndAGroup() {
        isRead(GROUP, 1, 2, 3, 4, 5, 6, 7, 8);
        isRead(join(GROUP, octets(1, 9)), 1, 2, 3, 4, 5, 6, 7, 8, 9);
    }

    static void itemsOfTwoCountAmongTheEight() {
        isRead(join(octets(1, 5), same(0, 14), octets(1, 6)), join(same(5, 22), octets(6)));
    }

    static void theLowestBitIsTheFirstItems() {
        isRead(octets(0b101, 'a', 0, 0, 'b'), text("aaaab"));
    }

    static void aRowMayRunIntoItself() {
        isRead(octets(0b11, 'a', 'b', 1, 4), text("ababababa"));
    }

    /** "the octets from d + 1 before on, l + 3 of them" */
    static void zeroAndZeroAreThreeOctetsOneBefore() {
        isRead(octets(0b11, 'a', 'b', 0, 0), text("abbbb"));
    }

    static void itIsReadWhetherOrNotItIsTheLongestRow() {
        isRead(octets(0b11111, 1, 1, 1, 1, 1), 1, 1, 1, 1, 1);
        isRead(octets(0b1, 1, 0, 0, 0, 0), 1, 1, 1, 1, 1, 1, 1);
    }

    static void aRowFrom256Before() {
        CodedStore x = new CodedStore();
        give(x, join(singles(256), octets(0, 255, 141)));
        due("unpack()", x.unpack(), 400);
        due("out(255)", x.out(255), 255);
        due("out(256)", x.out(256), 0);
        due("out(399)", x.out(399), 143);
    }

    static void aRowOf258() {
        CodedStore x = new CodedStore();
        give(x, 1, 9, 0, 255);
        due("unpack()", x.unpack(), 259);
        due("out(258)", x.out(258), 9);
    }

    /** "at a FLAG behind which there is nothing" */
    static void aFlagAloneIsAFault() {
        faultAt(0, 0);
    }

    static void aFlagAloneWithBitsIsAFault() {
        faultAt(0, 1);
        faultAt(0, 255);
    }

    static void aFlagAloneBehindAGroupIsAFault() {
        faultAt(9, join(GROUP, octets(0)));
        faultAt(9, join(GROUP, octets(255)));
    }

    /** "at the tape's size, if it ends in an ITEM of two" */
    static void halfAnItemIsAFaultAtTheTapesSize() {
        faultAt(3, 1, 9, 0);
    }

    static void halfAnItemAtTheVeryBeginning() {
        faultAt(2, 0, 0);
    }

    static void halfAnItemBehindAGroup() {
        faultAt(11, join(GROUP, octets(0, 0)));
    }

    static void halfAnItemThatIsTheEighthOfItsGroup() {
        faultAt(9, 0b1111111, 1, 2, 3, 4, 5, 6, 7, 0);
    }

    static void halfAnItemThatGoesBackTooFarIsHalfAnItem() {
        faultAt(3, 1, 9, 200);
    }

    static void halfAnItemBehind400OctetsIsHalfAnItem() {
        faultAt(7, 1, 9, 0, 255, 0, 138, 0);
    }

    static void halfAnItemWhoseFlagHasABitTooManyIsHalfAnItem() {
        faultAt(3, 0b101, 9, 0);
    }

    /** "at the first octet of an ITEM that goes back before the beginning" */
    static void aRowFromTheVeryBeginningIsNoFault() {
        isRead(octets(0b11, 5, 6, 1, 0), 5, 6, 5, 6, 5);
    }

    static void aRowFromOneBeforeTheBeginningIsAFault() {
        faultAt(3, 0b11, 5, 6, 2, 0);
    }

    static void aRowAtTheVeryBeginningIsAFault() {
        faultAt(1, 0, 0, 0);
        faultAt(1, 0, 255, 255);
    }

    static void aRowFrom256BeforeWithOnly255IsAFault() {
        int[] coded = join(singles(255), octets(255, 0));
        coded[31 * 9] = 0b1111111;
        faultAt(31 * 9 + 8, coded);
    }

    /** "or with which there would be more than 400" */
    static void just400OctetsByARow() {
        CodedStore x = new CodedStore();
        give(x, 1, 9, 0, 255, 0, 138);
        due("unpack()", x.unpack(), 400);
        due("out(399)", x.out(399), 9);
        due("out(400)", x.out(400), NONE);
    }

    static void just400OctetsByOneByItself() {
        CodedStore x = new CodedStore();
        give(x, 0b1001, 9, 0, 255, 0, 137, 8);
        due("unpack()", x.unpack(), 400);
        due("out(398)", x.out(398), 9);
        due("out(399)", x.out(399), 8);
    }

    static void aRowThatWouldMake401IsAFault() {
        faultAt(4, 1, 9, 0, 255, 0, 139);
    }

    static void anOctetThatWouldBeThe401stIsAFault() {
        faultAt(6, 0b1001, 9, 0, 255, 0, 138, 8);
    }

    static void theLongestRowAtTheEndIsAFault() {
        faultAt(4, 1, 9, 0, 255, 0, 255);
    }

    static void aFaultyRowIsAFaultThoughMoreFollows() {
        faultAt(4, 1, 9, 0, 255, 0, 139, 0, 0);
        faultAt(1, 0, 0, 0, 0, 0);
    }

    /** "or, behind its ITEMS, that has a bit for one that is not there" */
    static void aBitForTheNextItemIsAFault() {
        faultAt(0, 0b11, 9);
    }

    static void aBitForALaterItemIsAFault() {
        faultAt(0, 0b101, 9);
    }

    static void theHighestBitIsAFault() {
        faultAt(0, 0b10000001, 9);
        faultAt(0, 255, 1, 2, 3, 4, 5, 6, 7);
    }

    static void aBitBehindAnItemOfTwoIsAFault() {
        faultAt(0, 0b101, 9, 0, 0);
    }

    static void aBitTooManyInALaterGroupIsAFaultThere() {
        faultAt(9, join(GROUP, octets(2, 0, 0)));
        faultAt(9, join(GROUP, octets(3, 9)));
    }

    static void aBitTooManyIsLookedAtBehindItsItems() {
        faultAt(2, 0b10000001, 9, 1, 0);
        faultAt(6, 0b11001, 9, 0, 255, 0, 138, 8);
    }

    /** "the first time" */
    static void theFirstOfTwoFaultsCounts() {
        faultAt(2, 1, 9, 1, 0, 5, 0);
        faultAt(1, 0, 0, 0, 7, 7);
    }

    static void aFaultBeforeHalfAnItemCounts() {
        faultAt(2, 1, 9, 1, 0, 0);
    }

    static void aFaultBeforeAFlagAloneCounts() {
        faultAt(1, join(octets(0, 3), same(0, 15), octets(0)));
    }

    /** "a call that .. answers NONE .. changes nothing (but for .. THE TAPE, where it is read)" */
    static void withAFaultWhatWasLoadedStays() {
        for (int[] coded : new int[][] {{0}, {3, 66}, {1, 66, 0}, {1, 66, 1, 0}, {1, 66, 0, 255, 0, 139}}) {
            CodedStore x = twoTexts();
            x.load(1);
            give(x, coded);
            due("unpack()", x.unpack(), NONE);
            loadedIs("a fault", x, unlike(20));
        }
    }

    static void withAFaultTheTapeIsUsedUp() {
        CodedStore x = new CodedStore();
        give(x, 1, 66, 1, 0);
        due("unpack()", x.unpack(), NONE);
        due("told(7)", x.told(7), 0);
        due("unpack() of an empty tape", x.unpack(), 0);
    }

    static void whatWasLoadedGivesWay() {
        CodedStore x = twoTexts();
        x.load(1);
        give(x, 1, 66);
        due("unpack()", x.unpack(), 1);
        loadedIs("unpack()", x, 66);
        due("unpack() of an empty tape", x.unpack(), 0);
        due("out(0)", x.out(0), NONE);
    }

    static void itWritesNothing() {
        CodedStore x = twoTexts();
        x.power(0);
        give(x, 1, 66);
        due("unpack()", x.unpack(), 1);
        toldAre("unpacked", x, 2, 3, 61, 0, 2, 3, 1, 0);
    }

    static void whenOffItUnpacksAsEver() {
        CodedStore x = new CodedStore();
        switchOff(x);
        give(x, 1, 66);
        due("unpack()", x.unpack(), 1);
        loadedIs("unpack()", x, 66);
        give(x, 0);
        due("unpack()", x.unpack(), NONE);
        due("place()", x.place(), 0);
    }
}
