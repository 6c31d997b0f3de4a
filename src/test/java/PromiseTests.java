import java.lang.reflect.Constructor;
import java.lang.reflect.Field;
import java.lang.reflect.Method;
import java.lang.reflect.Modifier;
import java.util.Arrays;
import java.util.TreeSet;
import java.util.function.IntSupplier;

/** Each promise of the document, with answers worked out by hand from its words. */
public final class PromiseTests {
    private static int passed;
    private static int failed;

    public static void main(String[] args) {
        face();
        newObject();
        feed();
        commit();
        commitRoom();
        commitPower();
        delete();
        load();
        out();
        clean();
        cleanPower();
        power();
        recover();
        word();
        told();
        number();
        key();
        pack();
        packLimits();
        unpack();
        unpackFaults();
        place();
        System.out.println("PromiseTests: " + passed + " passed, " + failed + " failed");
        if (failed != 0) {
            System.exit(1);
        }
    }

    private static void due(String what, long got, long want) {
        if (got == want) {
            passed++;
        } else {
            failed++;
            System.out.println(what + " answered " + got + ", due is " + want);
        }
    }

    private static void thrown(String what, IntSupplier call, Class<? extends RuntimeException> want) {
        try {
            int got = call.getAsInt();
            failed++;
            System.out.println(what + " answered " + got + ", due is " + want.getSimpleName());
        } catch (RuntimeException e) {
            if (e.getClass() == want) {
                passed++;
            } else {
                failed++;
                System.out.println(what + " threw " + e + ", due is " + want.getSimpleName());
            }
        }
    }

    /** Feeds octets, as many as they are. */
    private static void give(CodedStore x, int... octets) {
        for (int at = 0; at < octets.length; at += 8) {
            int n = Math.min(8, octets.length - at);
            long value = 0;
            for (int i = n - 1; i >= 0; i--) {
                value = value << 8 | octets[at + i];
            }
            x.feed(n, value);
        }
    }

    private static int[] text(String s) {
        return s.chars().toArray();
    }

    private static int[] same(int octet, int size) {
        int[] row = new int[size];
        Arrays.fill(row, octet);
        return row;
    }

    /** A row in which no three octets stand twice: every octet is by itself. */
    private static int[] unlike(int size) {
        int[] row = new int[size];
        for (int i = 0; i < size; i++) {
            row[i] = i < 256 ? i : (3 * i + 1) & 255;
        }
        return row;
    }

    private static int[] join(int[]... rows) {
        return Arrays.stream(rows).flatMapToInt(Arrays::stream).toArray();
    }

    private static void loadedIs(String what, CodedStore x, int... octets) {
        int wrong = 0;
        for (int i = 0; i < octets.length; i++) {
            wrong += x.out(i) == octets[i] ? 0 : 1;
        }
        due(what + ": octets that are not as due", wrong, 0);
        due(what + ": the one behind the last", x.out(octets.length), -1);
    }

    private static void blockIs(String what, CodedStore x, int block, int... words) {
        for (int i = 0; i < 8; i++) {
            due(what + ": word(" + block + ", " + i + ")", x.word(block, i), i < words.length ? words[i] : 0);
        }
    }

    private static void toldAre(String what, CodedStore x, int... answers) {
        for (int i = 0; i < answers.length; i++) {
            due(what + ": told(" + i + ")", x.told(i), answers[i]);
        }
    }

    private static void putText(CodedStore x, int key, int number, int... octets) {
        give(x, octets);
        due("commit(" + key + ")", x.commit(key), number);
    }

    private static void face() {
        TreeSet<String> names = new TreeSet<>();
        for (Method m : CodedStore.class.getDeclaredMethods()) {
            if (!Modifier.isPrivate(m.getModifiers())) {
                names.add(m.getName() + Arrays.toString(m.getParameterTypes()) + m.getReturnType()
                        + Modifier.toString(m.getModifiers()));
            }
        }
        for (Field f : CodedStore.class.getDeclaredFields()) {
            if (!Modifier.isPrivate(f.getModifiers())) {
                names.add(f.getName() + Modifier.toString(f.getModifiers()));
            }
        }
        for (Constructor<?> c : CodedStore.class.getDeclaredConstructors()) {
            names.add(c.getName() + Arrays.toString(c.getParameterTypes()) + Modifier.toString(c.getModifiers()));
        }
        TreeSet<String> want = new TreeSet<>();
        for (String s : new String[] {"feed[int, long]", "commit[int]", "delete[int]", "load[int]", "out[int]", "clean[]",
                "power[int]", "recover[]", "word[int, int]", "told[int]", "number[int]", "key[int]", "pack[]", "unpack[]",
                "place[]"}) {
            want.add(s + "intpublic");
        }
        for (String s : new String[] {"NONE", "ABSENT", "ROOM", "OFF"}) {
            want.add(s + "public static final");
        }
        want.add("CodedStore[]public");
        due("the face is the document's: " + names, names.equals(want) ? 1 : 0, 1);
        due("the class is final", Modifier.isFinal(CodedStore.class.getModifiers()) ? 1 : 0, 1);
        due("NONE", CodedStore.NONE, -1);
        due("ABSENT", CodedStore.ABSENT, -2);
        due("ROOM", CodedStore.ROOM, -3);
        due("OFF", CodedStore.OFF, -4);
    }

    private static void newObject() {
        CodedStore x = new CodedStore();
        toldAre("a new object", x, 0, 0, 64, 0, 0, 0, 1, 0);
        for (int b = 0; b < 64; b++) {
            blockIs("a new object", x, b);
        }
        due("out(0)", x.out(0), -1);
        due("place()", x.place(), -1);
        due("number(0)", x.number(0), -2);
        due("load(0)", x.load(0), -2);
        due("delete(0)", x.delete(0), -2);
        due("key(0)", x.key(0), 0);
        due("clean()", x.clean(), 0);
        due("power(-1)", x.power(-1), -1);
        due("pack()", x.pack(), 0);
        due("unpack()", x.unpack(), 0);
        due("recover()", x.recover(), 0);
        x.feed(1, 5);
        due("two objects share nothing", new CodedStore().told(7), 0);
    }

    private static void feed() {
        CodedStore x = new CodedStore();
        due("feed takes the lowest octets", x.feed(3, 0x0102030405060708L), 3);
        due("feed takes negative values", x.feed(8, -2L), 11);
        due("feed(1)", x.feed(1, 0x1FFL), 12);
        for (int n : new int[] {0, 9, -1, Integer.MIN_VALUE, Integer.MAX_VALUE}) {
            thrown("feed(" + n + ", 1)", () -> x.feed(n, 1), IllegalArgumentException.class);
        }
        due("a feed that throws changes nothing", x.told(7), 12);
        due("commit", x.commit(1), 1);
        due("load", x.load(1), 12);
        loadedIs("feed", x, 8, 7, 6, 254, 255, 255, 255, 255, 255, 255, 255, 255);
        CodedStore y = new CodedStore();
        give(y, unlike(393));
        thrown("feed(8) at 393", () -> y.feed(8, 1), IllegalArgumentException.class);
        due("feed(7) at 393", y.feed(7, 1), 400);
        thrown("feed(1) at 400", () -> y.feed(1, 1), IllegalArgumentException.class);
        due("the tape is full", y.told(7), 400);
    }

    private static void commit() {
        CodedStore x = new CodedStore();
        putText(x, -7, 1, text("abc"));
        blockIs("plain", x, 0, 1, 256, -7, 3, 0x636261);
        due("the tape is used up", x.told(7), 0);
        // 1 + 3 coded octets are not less than 4: flag, a, d and l.
        putText(x, 2, 2, text("aaaa"));
        blockIs("as many coded octets stay plain", x, 1, 2, 256, 2, 4, 0x61616161);
        putText(x, 3, 3, text("aaaaa"));
        blockIs("fewer coded octets", x, 2, 3, 256 + 65536, 3, 4, 0x01006101);
        putText(x, 4, 4, unlike(16));
        blockIs("16 octets are one part", x, 3, 4, 256, 4, 16, 0x03020100, 0x07060504, 0x0B0A0908, 0x0F0E0D0C);
        putText(x, 5, 5, unlike(17));
        blockIs("17 octets are two", x, 4, 5, 512, 5, 17, 0x03020100, 0x07060504, 0x0B0A0908, 0x0F0E0D0C);
        blockIs("17 octets are two", x, 5, 5, 513, 5, 17, 16);
        putText(x, 6, 6);
        blockIs("an empty text", x, 6, 6, 256, 6, 0);
        toldAre("texts", x, 6, 7, 57, 0, 6, 7, 1, 0);
        putText(x, 5, 7, 200);
        blockIs("the old record is not used while it counts", x, 7, 7, 256, 5, 1, 200);
        putText(x, 8, 8, unlike(40));
        blockIs("the least free blocks", x, 4, 8, 768, 8, 40, 0x03020100, 0x07060504, 0x0B0A0908, 0x0F0E0D0C);
        blockIs("the least free blocks", x, 5, 8, 769, 8, 40, 0x13121110, 0x17161514, 0x1B1A1918, 0x1F1E1D1C);
        blockIs("behind a block that is live", x, 8, 8, 770, 8, 40, 0x23222120, 0x27262524);
        due("load", x.load(8), 40);
        loadedIs("load", x, unlike(40));
        due("a text that was written over has left its key's newer one", x.number(5), 7);
    }

    private static void commitRoom() {
        CodedStore x = new CodedStore();
        putText(x, 1, 1, unlike(400));
        putText(x, 2, 2, unlike(400));
        due("told(2)", x.told(2), 14);
        give(x, unlike(225));
        due("15 parts into 14 blocks", x.commit(3), -3);
        due("no room: nothing is written", x.told(5), 50);
        blockIs("no room", x, 50);
        due("no room: the tape was read", x.told(7), 0);
        due("no room: no number is used", x.told(4), 2);
        putText(x, 3, 3, unlike(224));
        due("told(2)", x.told(2), 0);
        due("no room for a grave", x.delete(1), -3);
        due("its text is there", x.load(1), 400);
        loadedIs("the longest text", x, unlike(400));
        due("no room for an empty text", x.commit(1), -3);
        due("nothing to clean", x.clean(), 0);
        CodedStore y = new CodedStore();
        putText(y, 1, 1, unlike(400));
        putText(y, 1, 2, unlike(400));
        putText(y, 1, 3, unlike(400));
        due("blocks of what no longer counts are used again", y.word(0, 0), 3);
        due("the 64 are enough", y.told(2), 39);
        due("a key may be absent and without room", new CodedStore().delete(1), -2);
    }

    private static void commitPower() {
        CodedStore x = new CodedStore();
        putText(x, 1, 1, 9);
        x.power(1);
        give(x, unlike(40));
        due("commit without power enough", x.commit(1), -4);
        due("the tape was read", x.told(7), 0);
        blockIs("the part that was written", x, 1, 2, 768, 1, 40, 0x03020100, 0x07060504, 0x0B0A0908, 0x0F0E0D0C);
        blockIs("the part that was not", x, 2);
        x.feed(2, 258);
        due("commit when off", x.commit(1), -4);
        due("the tape stays when off", x.told(7), 2);
        toldAre("off", x, 1, 1, 63, 0, 2, 2, 0, 2);
        due("number when off", x.number(1), 1);
        due("key when off", x.key(0), 1);
        due("recover", x.recover(), 1);
        due("the old text is whole", x.load(1), 1);
        loadedIs("the old text", x, 9);
        putText(x, 1, 3, unlike(40));
        blockIs("over the part that was left", x, 1, 3, 768, 1, 40, 0x03020100, 0x07060504, 0x0B0A0908, 0x0F0E0D0C);
        CodedStore y = new CodedStore();
        y.power(3);
        give(y, unlike(40));
        due("power for just so many writes", y.commit(4), 1);
        due("it is on still", y.told(6), 1);
        due("power told and used up", y.power(-1), 0);
        putText(y, 4, 2, 1);
    }

    private static void delete() {
        CodedStore x = new CodedStore();
        putText(x, 7, 1, unlike(20));
        putText(x, 8, 2, unlike(20));
        x.feed(2, 1);
        due("delete an absent key", x.delete(9), -2);
        due("delete", x.delete(7), 3);
        due("the tape is not read", x.told(7), 2);
        blockIs("a grave", x, 4, 3, 256 + 131072, 7);
        due("delete twice", x.delete(7), -2);
        due("number of a grave", x.number(7), -3);
        toldAre("a grave", x, 1, 3, 61, 1, 3, 5, 1, 2);
        due("load", x.load(7), -2);
        putText(x, 7, 4, 0, 1);
        due("the grave is free", x.told(3), 0);
        due("delete again", x.delete(7), 5);
        blockIs("in the next free block", x, 1, 5, 256 + 131072, 7);
        x.power(0);
        due("delete without power", x.delete(8), -4);
        due("delete an absent key when off", x.delete(9), -4);
        due("recover", x.recover(), 1);
        due("the text is there", x.number(8), 2);
    }

    private static void load() {
        CodedStore x = new CodedStore();
        putText(x, 0, 1, 3, 4);
        int[] mixed = join(text("round and round and round it goes, "), unlike(100), text("round and round"), same(255, 200));
        putText(x, Integer.MIN_VALUE, 2, mixed);
        due("it is coded", x.word(1, 1) >> 16, 1);
        putText(x, Integer.MAX_VALUE, 3);
        due("load a coded text", x.load(Integer.MIN_VALUE), mixed.length);
        loadedIs("a coded text", x, mixed);
        due("load an absent key", x.load(1), -2);
        loadedIs("absent: nothing changes", x, mixed);
        due("load key 0", x.load(0), 2);
        loadedIs("key 0", x, 3, 4);
        due("what is loaded is a copy", x.delete(0), 4);
        loadedIs("a copy", x, 3, 4);
        due("load an empty text", x.load(Integer.MAX_VALUE), 0);
        loadedIs("an empty text", x);
        x.load(Integer.MIN_VALUE);
        x.power(0);
        x.commit(5);
        due("load when off", x.load(Integer.MIN_VALUE), -4);
        due("load an absent key when off", x.load(1), -4);
        loadedIs("off: nothing changes", x, mixed);
    }

    private static void out() {
        CodedStore x = new CodedStore();
        for (int i : new int[] {Integer.MIN_VALUE, -1, 0, 1, 450, Integer.MAX_VALUE}) {
            due("out(" + i + ") of nothing", x.out(i), -1);
        }
        putText(x, 1, 1, 255, 0, 128);
        due("out before a load", x.out(0), -1);
        x.load(1);
        loadedIs("octets", x, 255, 0, 128);
        due("out(-1)", x.out(-1), -1);
        due("out(least)", x.out(Integer.MIN_VALUE), -1);
        due("out(greatest)", x.out(Integer.MAX_VALUE), -1);
        give(x, 1, 65);
        x.unpack();
        loadedIs("unpack() loads", x, 65);
        give(x, 7);
        x.pack();
        loadedIs("pack() loads", x, 1, 7);
    }

    private static void clean() {
        CodedStore x = new CodedStore();
        putText(x, 1, 1, unlike(33));
        putText(x, 2, 2, 5);
        putText(x, 1, 3, 6);
        due("delete", x.delete(2), 4);
        blockIs("the grave's block", x, 0, 4, 256 + 131072, 2);
        due("clean", x.clean(), 4);
        toldAre("cleaned", x, 1, 1, 63, 0, 3, 10, 1, 0);
        blockIs("a live block stays", x, 4, 3, 256, 1, 1, 6);
        for (int b : new int[] {0, 1, 2, 3}) {
            blockIs("cleaned", x, b);
        }
        due("no grave any more", x.number(2), -2);
        due("nothing left", x.clean(), 0);
        due("clean takes graves that nothing hides", x.delete(1), 4);
        due("clean", x.clean(), 2);
        putText(x, 3, 1, 1);
        x.power(0);
        due("a clean that writes nothing needs no power", x.clean(), 0);
        due("and leaves it on", x.told(6), 1);
        x.commit(1);
        due("clean when off", x.clean(), -4);
    }

    private static void cleanPower() {
        // Graves lie in blocks 0 and 3, what is free in 1 and 2: this goes first, in order, then the graves.
        int[] order = {1, 2, 0, 3};
        for (int n = 0; n <= 5; n++) {
            CodedStore x = new CodedStore();
            putText(x, 1, 1, 5);
            putText(x, 2, 2, unlike(20));
            due("delete(2)", x.delete(2), 3);
            putText(x, 1, 4, 6);
            due("delete(1)", x.delete(1), 5);
            x.power(n);
            due("clean with power " + n, x.clean(), n >= 4 ? 4 : -4);
            for (int i = 0; i < 4; i++) {
                due("power " + n + ": block " + order[i] + " is 0", x.word(order[i], 0) == 0 ? 1 : 0, i < n ? 1 : 0);
            }
            due("power", x.told(6), n >= 4 ? 1 : 0);
            due("writes", x.told(5), 6 + Math.min(n, 4));
            due("no text comes back", x.recover(), 0);
            due("clean takes the rest", x.clean(), 4 - Math.min(n, 4));
        }
    }

    private static void power() {
        CodedStore x = new CodedStore();
        due("power(1000)", x.power(1000), -1);
        due("power(0)", x.power(0), 1000);
        due("power(-1)", x.power(-1), 0);
        due("power(5)", x.power(5), -1);
        for (int n : new int[] {-2, 1001, Integer.MIN_VALUE, Integer.MAX_VALUE}) {
            thrown("power(" + n + ")", () -> x.power(n), IllegalArgumentException.class);
        }
        putText(x, 1, 1, unlike(20));
        due("less those that were done", x.power(3), 3);
        putText(x, 1, 2, unlike(20));
        due("delete", x.delete(1), 3);
        due("all were done, it is on", x.power(-1), 0);
        putText(x, 1, 4, unlike(20));
        due("no limit is told", x.power(0), -1);
        due("the next write is not done", x.commit(1), -4);
        thrown("power(1) when off", () -> x.power(1), IllegalStateException.class);
        thrown("power(-1) when off", () -> x.power(-1), IllegalStateException.class);
        thrown("power(1001) when off", () -> x.power(1001), IllegalArgumentException.class);
        x.recover();
        due("recover forgets it", x.power(-1), -1);
    }

    private static void recover() {
        CodedStore x = new CodedStore();
        putText(x, 1, 1, unlike(20));
        putText(x, 2, 2, 3);
        x.delete(2);
        give(x, 0);
        due("unpack", x.unpack(), -1);
        due("place", x.place(), 0);
        x.load(1);
        x.feed(1, 1);
        x.power(9);
        due("recover with the power on", x.recover(), 1);
        toldAre("recovered", x, 1, 3, 61, 1, 3, 4, 1, 0);
        due("what was loaded is forgotten", x.out(0), -1);
        due("place() is forgotten", x.place(), -1);
        due("the power is forgotten", x.power(0), -1);
        due("power off", x.delete(1), -4);
        x.feed(3, 1);
        due("off", x.told(6), 0);
        due("recover", x.recover(), 1);
        due("on", x.told(6), 1);
        due("the tape is forgotten", x.told(7), 0);
        putText(x, 5, 4, 1);
        due("texts", x.recover(), 2);
        due("load", x.load(1), 20);
    }

    private static void word() {
        CodedStore x = new CodedStore();
        putText(x, 1, 1, unlike(16));
        due("word(0, 7)", x.word(0, 7), 0x0F0E0D0C);
        due("word(63, 7)", x.word(63, 7), 0);
        putText(x, 2, 2, 0, 0, 0, 128);
        due("a word is an int", x.word(1, 4), Integer.MIN_VALUE);
        int[][] none = {{-1, 0}, {64, 0}, {0, -1}, {0, 8}, {-1, 8}, {Integer.MIN_VALUE, 0}, {Integer.MAX_VALUE, 0},
            {0, Integer.MIN_VALUE}, {0, Integer.MAX_VALUE}, {1, -1}, {63, 8}};
        for (int[] w : none) {
            thrown("word(" + w[0] + ", " + w[1] + ")", () -> x.word(w[0], w[1]), IndexOutOfBoundsException.class);
        }
    }

    private static void told() {
        CodedStore x = new CodedStore();
        putText(x, 1, 1, unlike(20));
        putText(x, 2, 2, 1);
        x.delete(2);
        x.feed(5, 1);
        toldAre("told", x, 1, 3, 61, 1, 3, 4, 1, 5);
        x.power(1);
        give(x, unlike(30));
        due("commit", x.commit(3), -4);
        toldAre("off: a part that is not of a whole record", x, 1, 3, 61, 1, 4, 5, 0, 0);
        for (int what : new int[] {-1, 8, Integer.MIN_VALUE, Integer.MAX_VALUE}) {
            thrown("told(" + what + ")", () -> x.told(what), IndexOutOfBoundsException.class);
        }
    }

    private static void number() {
        CodedStore x = new CodedStore();
        due("none", x.number(0), -2);
        putText(x, 0, 1, 1);
        due("key 0", x.number(0), 1);
        due("key 1", x.number(1), -2);
        putText(x, 0, 2, 1);
        due("the newest", x.number(0), 2);
        x.delete(0);
        due("a grave", x.number(0), -3);
        putText(x, 0, 4, unlike(20));
        due("a text again", x.number(0), 4);
        x.power(1);
        give(x, unlike(40));
        x.commit(0);
        due("off: what counts", x.number(0), 4);
    }

    private static void key() {
        CodedStore x = new CodedStore();
        int[] keys = {5, -3, 0, Integer.MAX_VALUE, Integer.MIN_VALUE, 7};
        for (int i = 0; i < keys.length; i++) {
            putText(x, keys[i], i + 1, unlike(20));
        }
        x.delete(7);
        putText(x, 5, 8, 1);
        int[] due = {Integer.MIN_VALUE, -3, 0, 5, Integer.MAX_VALUE, 0};
        for (int k = 0; k < due.length; k++) {
            due("key(" + k + ")", x.key(k), due[k]);
        }
        due("key(-1)", x.key(-1), 0);
        due("key(least)", x.key(Integer.MIN_VALUE), 0);
        due("key(greatest)", x.key(Integer.MAX_VALUE), 0);
    }

    private static void packIs(String what, int[] text, int... coded) {
        CodedStore x = new CodedStore();
        give(x, text);
        due(what + ": pack()", x.pack(), coded.length);
        loadedIs(what, x, coded);
        due(what + ": the tape is used up", x.told(7), 0);
        if (coded.length <= 400) {
            give(x, coded);
            due(what + ": unpack()", x.unpack(), text.length);
            loadedIs(what + " and back", x, text);
        }
    }

    private static void pack() {
        packIs("nothing", new int[0]);
        packIs("one", text("a"), 1, 'a');
        packIs("two alike", text("aa"), 3, 'a', 'a');
        packIs("two alike behind one", text("aaa"), 7, 'a', 'a', 'a');
        packIs("three alike behind one", text("aaaa"), 1, 'a', 0, 0);
        packIs("a row that runs into itself", text("abcabcabcabcabc"), 7, 'a', 'b', 'c', 2, 9);
        packIs("rows of two are octets", text("abxabyab"), 255, 'a', 'b', 'x', 'a', 'b', 'y', 'a', 'b');
        packIs("a full group ends without a flag", text("abcdefgh"), 255, 'a', 'b', 'c', 'd', 'e', 'f', 'g', 'h');
        packIs("a ninth item begins a group", text("abcdefghi"), 255, 'a', 'b', 'c', 'd', 'e', 'f', 'g', 'h', 1, 'i');
        packIs("an item of two in a new group", text("abcdefghabc"), 255, 'a', 'b', 'c', 'd', 'e', 'f', 'g', 'h', 0, 7, 0);
        packIs("of several the least distance", text("abc1abc2abc3"),
            0b10101111, 'a', 'b', 'c', '1', 3, 0, '2', 3, 0, '3');
        packIs("the longest, though farther", text("abcd1abc2abcd"),
            0b01011111, 'a', 'b', 'c', 'd', '1', 4, 0, '2', 8, 1);
        packIs("the longest is taken at once, not a longer one a place on", text("abc1bcde2abcde"),
            255, 'a', 'b', 'c', '1', 'b', 'c', 'd', 'e', 0b1101, '2', 8, 0, 'd', 'e');
    }

    private static void packLimits() {
        packIs("a row of 258", same(9, 259), 1, 9, 0, 255);
        packIs("259 more are one of 258 and an octet", same(9, 260), 5, 9, 0, 255, 9);
        packIs("at 258 a least distance counts", join(same(9, 262)), 1, 9, 0, 255, 0, 0);
        packIs("400 alike", same(0, 400), 1, 0, 0, 255, 0, 138);
        CodedStore x = new CodedStore();
        give(x, unlike(400));
        due("no row stands twice", x.pack(), 450);
        due("the last octet", x.out(449), unlike(400)[399]);
        due("the last flag", x.out(441), 255);
        due("behind it", x.out(450), -1);
        int[] first = {250, 251, 252};
        int[] between = new int[253];
        for (int i = 0; i < 253; i++) {
            between[i] = i % 250;
        }
        between[250] = 253;
        between[251] = 254;
        between[252] = 255;
        CodedStore y = new CodedStore();
        give(y, join(first, between, first));
        due("256 before", y.pack(), 256 + 32 + 1 + 2);
        due("its d", y.out(289), 255);
        due("its l", y.out(290), 0);
        CodedStore z = new CodedStore();
        give(z, join(first, new int[] {251}, between, first));
        due("257 before is too far", z.pack(), 260 + 33);
        due("an octet", z.out(292), 252);
        CodedStore w = new CodedStore();
        w.power(0);
        w.commit(1);
        give(w, 1);
        due("pack when off", w.pack(), 2);
        give(w, 1, 1);
        due("unpack when off", w.unpack(), 1);
    }

    private static void unpack() {
        CodedStore x = new CodedStore();
        due("nothing", x.unpack(), 0);
        give(x, 7, 'a', 'b', 'c', 2, 9);
        due("a row that runs into itself", x.unpack(), 15);
        loadedIs("a row", x, text("abcabcabcabcabc"));
        due("the tape is used up", x.told(7), 0);
        give(x, 1, 'a', 0, 0);
        due("to the very beginning", x.unpack(), 4);
        give(x, 3, 1, 1, 1, 0);
        due("shorter items than the longest", x.unpack(), 5);
        give(x, 1, 9, 0, 255, 0, 138);
        due("just 400", x.unpack(), 400);
        loadedIs("just 400", x, same(9, 400));
        give(x, 0b1001, 9, 0, 255, 0, 137, 8);
        due("the 400th an octet", x.unpack(), 400);
        due("the 400th", x.out(399), 8);
        give(x, 255, 1, 2, 3, 4, 5, 6, 7, 8);
        due("a full group", x.unpack(), 8);
        give(x, 255, 1, 2, 3, 4, 5, 6, 7, 8, 0, 7, 5);
        due("two groups", x.unpack(), 16);
        loadedIs("two groups", x, 1, 2, 3, 4, 5, 6, 7, 8, 1, 2, 3, 4, 5, 6, 7, 8);
        due("no place yet", x.place(), -1);
    }

    private static void faultIs(String what, int place, int... coded) {
        CodedStore x = new CodedStore();
        give(x, 1, 66);
        x.unpack();
        give(x, coded);
        due(what + ": unpack()", x.unpack(), -1);
        due(what + ": place()", x.place(), place);
        due(what + ": the tape is used up", x.told(7), 0);
        loadedIs(what + ": what was loaded stays", x, 66);
    }

    private static void unpackFaults() {
        faultIs("a flag alone", 0, 0);
        faultIs("a flag with bits alone", 0, 255);
        faultIs("a second flag alone", 9, 255, 1, 2, 3, 4, 5, 6, 7, 8, 0);
        faultIs("half an item, in the beginning", 2, 0, 0);
        faultIs("half an item that would go back too far", 3, 1, 7, 200);
        faultIs("half an item that a bit stands behind", 3, 0b101, 7, 0);
        faultIs("back before the beginning", 1, 0, 0, 0);
        faultIs("back one too far", 3, 3, 5, 6, 2, 0);
        faultIs("the first of two faults", 2, 1, 5, 1, 0, 0);
        faultIs("more than 400 with an item of two", 4, 1, 9, 0, 255, 0, 139);
        faultIs("more than 400 with an octet", 6, 0b1001, 9, 0, 255, 0, 138, 8);
        faultIs("a bit for an item that is not there", 0, 3, 9);
        faultIs("a bit behind one that is 0", 0, 0b101, 9);
        faultIs("the highest bit", 0, 0b10000001, 9);
        faultIs("an item's fault before its flag's", 2, 0b10000001, 9, 1, 0);
        faultIs("a bit behind the items, in the second group", 9, 255, 1, 2, 3, 4, 5, 6, 7, 8, 2, 0, 0);
    }

    private static void place() {
        CodedStore x = new CodedStore();
        due("before one", x.place(), -1);
        give(x, 1, 5, 1, 0);
        x.unpack();
        due("the place", x.place(), 2);
        give(x, 1, 5);
        due("a good one", x.unpack(), 1);
        due("the last that answered NONE", x.place(), 2);
        give(x, 0);
        x.unpack();
        due("the last one", x.place(), 0);
        x.recover();
        due("forgotten", x.place(), -1);
    }
}
