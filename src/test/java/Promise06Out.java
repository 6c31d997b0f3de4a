/** "Octet i of what was loaded last (a text, or by pack(), unpack()); NONE when there is none." */
final class Promise06Out extends Checks {
    private static CodedStore loaded(int... octets) {
        CodedStore x = new CodedStore();
        putText(x, 1, 1, octets);
        due("load(1)", x.load(1), octets.length);
        return x;
    }

    static void theFirstAndTheLast() {
        CodedStore x = loaded(5, 6, 7);
        due("out(0)", x.out(0), 5);
        due("out(2)", x.out(2), 7);
    }

    static void noneBehindTheLast() {
        due("out(3)", loaded(5, 6, 7).out(3), NONE);
    }

    static void noneBeforeTheFirst() {
        due("out(-1)", loaded(5, 6, 7).out(-1), NONE);
    }

    static void noneAtTheLeastAndTheGreatestInt() {
        CodedStore x = loaded(5, 6, 7);
        due("out(least)", x.out(Integer.MIN_VALUE), NONE);
        due("out(greatest)", x.out(Integer.MAX_VALUE), NONE);
    }

    static void noneBeforeAnythingWasLoaded() {
        CodedStore x = new CodedStore();
        due("out(0)", x.out(0), NONE);
        putText(x, 1, 1, 5);
        due("out(0) after a commit", x.out(0), NONE);
        x.feed(1, 3);
        due("out(0) after a feed", x.out(0), NONE);
    }

    static void noneOfAnEmptyText() {
        CodedStore x = twoTexts();
        putText(x, 3, 3);
        x.load(1);
        due("load(3)", x.load(3), 0);
        due("out(0)", x.out(0), NONE);
    }

    static void noneOfALongerTextBefore() {
        CodedStore x = twoTexts();
        x.load(1);
        x.load(2);
        due("out(0)", x.out(0), 7);
        due("out(1)", x.out(1), NONE);
        due("out(19)", x.out(19), NONE);
    }

    static void octetsAreZeroTo255() {
        loadedIs("octets", loaded(0, 127, 128, 255, 254), 0, 127, 128, 255, 254);
        CodedStore x = new CodedStore();
        give(x, 0b1111, 0, 127, 128, 255);
        due("unpack()", x.unpack(), 4);
        loadedIs("unpack()", x, 0, 127, 128, 255);
        give(x, 255);
        due("pack()", x.pack(), 2);
        loadedIs("pack()", x, 1, 255);
    }

    static void whatPackMade() {
        CodedStore x = loaded(5, 6, 7);
        x.feed(1, 9);
        due("pack()", x.pack(), 2);
        loadedIs("pack()", x, 1, 9);
    }

    static void whatUnpackMade() {
        CodedStore x = loaded(5, 6, 7);
        give(x, 1, 66);
        due("unpack()", x.unpack(), 1);
        loadedIs("unpack()", x, 66);
    }

    static void theLastLoadedCounts() {
        CodedStore x = loaded(5, 6, 7);
        give(x, 1, 66);
        x.unpack();
        x.load(1);
        loadedIs("load(1)", x, 5, 6, 7);
    }

    static void theLast400thOctetOfAText() {
        CodedStore x = loaded(unlike(400));
        due("out(399)", x.out(399), 0xAE);
        due("out(400)", x.out(400), NONE);
    }

    static void theLast450thOctetOfAPack() {
        CodedStore x = new CodedStore();
        give(x, unlike(400));
        due("pack()", x.pack(), 450);
        due("out(449)", x.out(449), 0xAE);
        due("out(450)", x.out(450), NONE);
    }

    static void whenOffItAnswersAsEver() {
        CodedStore x = loaded(5, 6, 7);
        switchOff(x);
        loadedIs("off", x, 5, 6, 7);
    }

    static void askingChangesNothing() {
        CodedStore x = loaded(5, 6, 7);
        due("out(9)", x.out(9), NONE);
        due("out(-9)", x.out(-9), NONE);
        loadedIs("asked", x, 5, 6, 7);
    }
}
