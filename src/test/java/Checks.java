import java.util.ArrayList;
import java.util.Arrays;
import java.util.List;
import java.util.function.IntSupplier;

/** What the tests of the promises share: how an answer is compared, and texts and stores to begin with. */
abstract class Checks {
    static final int NONE = -1;
    static final int ABSENT = -2;
    static final int ROOM = -3;
    static final int OFF = -4;

    private static int checked;
    private static final List<String> wrong = new ArrayList<>();

    static int checked() {
        return checked;
    }

    /** What was wrong since this was asked last. */
    static List<String> takeWrong() {
        List<String> was = new ArrayList<>(wrong);
        wrong.clear();
        return was;
    }

    static void due(String what, long got, long want) {
        checked++;
        if (got != want) {
            wrong.add(what + " answered " + got + ", due is " + want);
        }
    }

    static void thrown(String what, IntSupplier call, Class<? extends RuntimeException> want) {
        checked++;
        try {
            wrong.add(what + " answered " + call.getAsInt() + ", due is " + want.getSimpleName());
        } catch (RuntimeException e) {
            if (e.getClass() != want) {
                wrong.add(what + " threw " + e + ", due is " + want.getSimpleName());
            }
        }
    }

    /** Feeds octets, as many as they are. */
    static void give(CodedStore x, int... octets) {
        for (int at = 0; at < octets.length; at += 8) {
            int n = Math.min(8, octets.length - at);
            long value = 0;
            for (int i = n - 1; i >= 0; i--) {
                value = value << 8 | octets[at + i];
            }
            x.feed(n, value);
        }
    }

    static int[] text(String s) {
        return s.chars().toArray();
    }

    static int[] same(int octet, int size) {
        int[] row = new int[size];
        Arrays.fill(row, octet);
        return row;
    }

    /** A row in which no three octets stand twice: every octet is by itself. */
    static int[] unlike(int size) {
        int[] row = new int[size];
        for (int i = 0; i < size; i++) {
            row[i] = i < 256 ? i : (3 * i + 1) & 255;
        }
        return row;
    }

    static int[] join(int[]... rows) {
        return Arrays.stream(rows).flatMapToInt(Arrays::stream).toArray();
    }

    static void loadedIs(String what, CodedStore x, int... octets) {
        int different = 0;
        for (int i = 0; i < octets.length; i++) {
            different += x.out(i) == octets[i] ? 0 : 1;
        }
        due(what + ": octets that are not as due", different, 0);
        due(what + ": the one behind the last", x.out(octets.length), NONE);
    }

    /** The words that are not named are 0. */
    static void blockIs(String what, CodedStore x, int block, int... words) {
        for (int i = 0; i < 8; i++) {
            due(what + ": word(" + block + ", " + i + ")", x.word(block, i), i < words.length ? words[i] : 0);
        }
    }

    static void toldAre(String what, CodedStore x, int... answers) {
        for (int i = 0; i < answers.length; i++) {
            due(what + ": told(" + i + ")", x.told(i), answers[i]);
        }
    }

    static int commitOf(CodedStore x, int key, int... octets) {
        give(x, octets);
        return x.commit(key);
    }

    static void putText(CodedStore x, int key, int number, int... octets) {
        due("commit(" + key + ")", commitOf(x, key, octets), number);
    }

    /** Key 1 with 20 octets in blocks 0 and 1, key 2 with one octet in block 2. */
    static CodedStore twoTexts() {
        CodedStore x = new CodedStore();
        putText(x, 1, 1, unlike(20));
        putText(x, 2, 2, 7);
        return x;
    }

    /** Blocks 0 to 63 - free are live, with keys 1, 2 and 3 in them; the others were never written. */
    static CodedStore storeWithFree(int free) {
        CodedStore x = new CodedStore();
        putText(x, 1, 1, unlike(400));
        putText(x, 2, 2, unlike(320));
        putText(x, 3, 3, unlike(16 * (64 - 25 - 20 - free)));
        due("free blocks to begin with", x.told(2), free);
        return x;
    }

    static void switchOff(CodedStore x) {
        x.power(0);
        due("a commit without power", x.commit(999), OFF);
        due("the power", x.told(6), 0);
    }
}
