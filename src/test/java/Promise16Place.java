/** "The place on THE TAPE of the last unpack() that answered NONE; NONE before one." */
final class Promise16Place extends Checks {
    private static CodedStore afterFaultAtTwo() {
        CodedStore x = new CodedStore();
        give(x, 1, 9, 1, 0);
        due("unpack()", x.unpack(), NONE);
        return x;
    }

    static void noneBeforeAnUnpack() {
        CodedStore x = new CodedStore();
        due("place()", x.place(), NONE);
        x.pack();
        due("place()", x.place(), NONE);
    }

    static void noneBehindAnUnpackWithoutFault() {
        CodedStore x = new CodedStore();
        give(x, 1, 9);
        due("unpack()", x.unpack(), 1);
        due("place()", x.place(), NONE);
        due("unpack() of an empty tape", x.unpack(), 0);
        due("place()", x.place(), NONE);
    }

    static void thePlaceOfTheFault() {
        due("place()", afterFaultAtTwo().place(), 2);
    }

    static void itStaysBehindAnUnpackWithoutFault() {
        CodedStore x = afterFaultAtTwo();
        give(x, 1, 9);
        due("unpack()", x.unpack(), 1);
        due("place()", x.place(), 2);
    }

    static void itStaysBehindAnUnpackOfAnEmptyTape() {
        CodedStore x = afterFaultAtTwo();
        due("unpack()", x.unpack(), 0);
        due("place()", x.place(), 2);
    }

    static void theLastFaultCounts() {
        CodedStore x = afterFaultAtTwo();
        give(x, 1, 9, 0);
        due("unpack()", x.unpack(), NONE);
        due("place()", x.place(), 3);
        give(x, 0);
        due("unpack()", x.unpack(), NONE);
        due("place()", x.place(), 0);
    }

    static void theFirstPlaceIsZero() {
        CodedStore x = new CodedStore();
        give(x, 0);
        due("unpack()", x.unpack(), NONE);
        due("place()", x.place(), 0);
    }

    static void theLastPlaceIsTheTapesSize() {
        // 44 groups of nine are 396; then a flag, two octets by themselves and half an item.
        int[] coded = new int[400];
        for (int i = 0; i < 396; i++) {
            coded[i] = i % 9 == 0 ? 255 : i % 100;
        }
        coded[396] = 0b11;
        CodedStore x = new CodedStore();
        give(x, coded);
        due("unpack()", x.unpack(), NONE);
        due("place()", x.place(), 400);
    }

    static void otherCallsLeaveIt() {
        CodedStore x = afterFaultAtTwo();
        give(x, 1, 2);
        x.pack();
        x.feed(1, 1);
        x.commit(1);
        x.load(1);
        x.delete(1);
        x.clean();
        x.power(0);
        due("place()", x.place(), 2);
    }

    static void whenOffItAnswersAsEver() {
        CodedStore x = afterFaultAtTwo();
        switchOff(x);
        due("place()", x.place(), 2);
    }

    static void askingChangesNothing() {
        CodedStore x = afterFaultAtTwo();
        due("place()", x.place(), 2);
        due("place() again", x.place(), 2);
    }

    static void recoveringForgetsIt() {
        CodedStore x = afterFaultAtTwo();
        x.recover();
        due("place()", x.place(), NONE);
    }
}
