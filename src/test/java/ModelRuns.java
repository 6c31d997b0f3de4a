import java.util.ArrayDeque;
import java.util.ArrayList;
import java.util.Deque;
import java.util.List;
import java.util.Random;
import java.util.function.IntSupplier;

/** Long runs of calls, always the same ones, answered by CodedStore and by the naive model alike. */
public final class ModelRuns {
    private static final int RUNS = 3000;
    private static final int CALLS = 512;
    private static final int STEP_CALLS = CALLS - 16 * 8;
    private static final int[] EDGES = {Integer.MIN_VALUE, Integer.MAX_VALUE, -2, -1, 0, 1, 7, 8, 9, 63, 64, 65, 1000, 1001};

    private final Random random;
    private final int run;
    private final int style;
    private final CodedStore store = new CodedStore();
    private final NaiveStore naive = new NaiveStore();
    private final Deque<String> last = new ArrayDeque<>();
    private int most = STEP_CALLS;
    private int calls;
    private int wrong;

    private ModelRuns(int run) {
        this.run = run;
        this.random = new Random(run);
        this.style = run % 6;
    }

    public static void main(String[] args) {
        int wrongRuns = 0;
        int all = 0;
        for (int run = 0; run < RUNS; run++) {
            ModelRuns r = new ModelRuns(run);
            r.go();
            all += r.calls;
            wrongRuns += r.wrong == 0 ? 0 : 1;
        }
        System.out.println("ModelRuns: " + all + " calls in " + RUNS + " runs, " + wrongRuns + " runs wrong");
        if (wrongRuns != 0) {
            System.exit(1);
        }
    }

    private static String answerOf(IntSupplier call) {
        try {
            return Integer.toString(call.getAsInt());
        } catch (RuntimeException e) {
            return "throws." + e.getClass().getSimpleName();
        }
    }

    private void same(String name, IntSupplier got, IntSupplier due) {
        if (calls >= most || wrong > 0) {
            return;
        }
        calls++;
        String answer = answerOf(got);
        String want = answerOf(due);
        last.addLast(name + " = " + want);
        if (last.size() > 12) {
            last.removeFirst();
        }
        if (!answer.equals(want)) {
            wrong++;
            System.out.println("run " + run + ", call " + calls + ": " + name + " answered " + answer + ", due is " + want);
            System.out.println("  last calls: " + last);
        }
    }

    private void go() {
        while (calls < most && wrong == 0) {
            step();
        }
        most = CALLS;
        // An object is for 512 calls: each run can compare a quarter of the disk at its end.
        for (int i = 0; i < CALLS - STEP_CALLS; i++) {
            int block = run % 4 * 16 + i / 8;
            int word = i % 8;
            same("word(" + block + ", " + word + ")", () -> store.word(block, word), () -> naive.word(block, word));
        }
    }

    private int someKey() {
        int range = style == 1 ? 60 : style == 2 ? 3 : 8;
        return random.nextInt(30) == 0 ? EDGES[random.nextInt(EDGES.length)] : random.nextInt(range) - range / 3;
    }

    private int some(int bound) {
        return random.nextInt(25) == 0 ? EDGES[random.nextInt(EDGES.length)] : random.nextInt(bound);
    }

    private void step() {
        switch (random.nextInt(20)) {
            case 0: case 1: case 2: case 3:
                fill();
                break;
            case 4: case 5: case 6: case 7: {
                fill();
                int key = someKey();
                same("commit(" + key + ")", () -> store.commit(key), () -> naive.commit(key));
                break;
            }
            case 8: case 9: {
                int key = someKey();
                same("delete(" + key + ")", () -> store.delete(key), () -> naive.delete(key));
                break;
            }
            case 10: {
                int key = someKey();
                same("load(" + key + ")", () -> store.load(key), () -> naive.load(key));
                outs();
                break;
            }
            case 11:
                if (random.nextInt(style == 1 ? 12 : 3) == 0) {
                    same("clean()", store::clean, naive::clean);
                }
                break;
            case 12:
                powerOrRecover();
                break;
            case 13: {
                int block = some(64);
                int i = some(8);
                same("word(" + block + ", " + i + ")", () -> store.word(block, i), () -> naive.word(block, i));
                break;
            }
            case 14: case 15: {
                int what = some(8);
                same("told(" + what + ")", () -> store.told(what), () -> naive.told(what));
                break;
            }
            case 16: {
                int key = someKey();
                same("number(" + key + ")", () -> store.number(key), () -> naive.number(key));
                int k = some(8);
                same("key(" + k + ")", () -> store.key(k), () -> naive.key(k));
                break;
            }
            case 17:
                fill();
                same("pack()", store::pack, naive::pack);
                outs();
                break;
            case 18:
                fillCoded();
                same("unpack()", store::unpack, naive::unpack);
                same("place()", store::place, naive::place);
                outs();
                break;
            default:
                same("place()", store::place, naive::place);
                same("told(7)", () -> store.told(7), () -> naive.told(7));
                break;
        }
    }

    private void outs() {
        for (int j = 0; j < 3; j++) {
            int i = some(naive.loaded.size() + 1);
            same("out(" + i + ")", () -> store.out(i), () -> naive.out(i));
        }
    }

    private void powerOrRecover() {
        if (style == 0 || random.nextInt(naive.on ? 4 : 2) == 0) {
            same("recover()", store::recover, naive::recover);
            return;
        }
        int n = random.nextInt(15) == 0 ? EDGES[random.nextInt(EDGES.length)] : random.nextInt(12) - 1;
        same("power(" + n + ")", () -> store.power(n), () -> naive.power(n));
    }

    private void feed(int n, long octets) {
        same("feed(" + n + ", " + octets + ")", () -> store.feed(n, octets), () -> naive.feed(n, octets));
    }

    private void fill() {
        int most = style == 3 ? 55 : style == 1 ? 4 : 12;
        int letters = new int[] {256, 2, 4, 20, 1}[random.nextInt(5)];
        int feeds = random.nextInt(most);
        for (int j = 0; j < feeds; j++) {
            long octets = 0;
            for (int i = 0; i < 8; i++) {
                octets = octets << 8 | random.nextInt(letters);
            }
            feed(random.nextInt(20) == 0 ? some(10) : 8, octets);
        }
    }

    /** Coded octets, sound ones or with a fault at any place: cut off, changed, or followed by more. */
    private void fillCoded() {
        if (random.nextInt(4) == 0) {
            same("recover()", store::recover, naive::recover);
        }
        List<Integer> text = new ArrayList<>();
        int size = random.nextInt(random.nextBoolean() ? 401 : 40);
        int letters = new int[] {1, 2, 3, 200}[random.nextInt(4)];
        for (int i = 0; i < size; i++) {
            text.add(random.nextInt(letters));
        }
        List<Integer> coded = new ArrayList<>(NaiveStore.code(text));
        int kind = random.nextInt(5);
        if (kind == 1 && !coded.isEmpty()) {
            coded.set(random.nextInt(coded.size()), random.nextInt(256));
        } else if (kind == 2 && !coded.isEmpty()) {
            coded.subList(random.nextInt(coded.size()), coded.size()).clear();
        } else if (kind == 3) {
            for (int i = random.nextInt(12); i > 0; i--) {
                coded.add(random.nextInt(random.nextBoolean() ? 4 : 256));
            }
        } else if (kind == 4) {
            coded.clear();
            for (int i = random.nextInt(30); i > 0; i--) {
                coded.add(random.nextInt(random.nextBoolean() ? 3 : 256));
            }
        }
        for (int at = 0; at < coded.size(); at += 8) {
            long octets = 0;
            int n = Math.min(8, coded.size() - at);
            for (int i = n - 1; i >= 0; i--) {
                octets = octets << 8 | coded.get(at + i);
            }
            feed(n, octets);
        }
    }
}
