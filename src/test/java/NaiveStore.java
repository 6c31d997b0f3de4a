import java.util.ArrayList;
import java.util.Arrays;
import java.util.HashMap;
import java.util.List;
import java.util.Map;
import java.util.TreeMap;

/** The document's words said once more, as plainly and slowly as they can be, to compare with. */
final class NaiveStore {
    static final class PowerWent extends RuntimeException {
        private static final long serialVersionUID = 1L;
    }

    final int[][] blocks = new int[64][8];
    List<Integer> tape = new ArrayList<>();
    List<Integer> loaded = new ArrayList<>();
    boolean on = true;
    int toldPower = -1;
    int writes;
    int place = -1;

    int feed(int n, long octets) {
        if (n < 1 || n > 8 || tape.size() + n > 400) {
            throw new IllegalArgumentException();
        }
        for (int i = 0; i < n; i++) {
            tape.add((int) Math.floorMod(octets, 256L));
            octets = Math.floorDiv(octets, 256L);
        }
        return tape.size();
    }

    int commit(int key) {
        if (!on) {
            return -4;
        }
        List<Integer> text = takeTape();
        List<Integer> coded = code(text);
        return coded.size() < text.size() ? put(key, 1, coded) : put(key, 0, text);
    }

    int delete(int key) {
        if (!on) {
            return -4;
        }
        return texts().containsKey(key) ? put(key, 2, new ArrayList<>()) : -2;
    }

    int load(int key) {
        if (!on) {
            return -4;
        }
        List<int[]> record = texts().get(key);
        if (record == null) {
            return -2;
        }
        int size = record.get(0)[3];
        List<Integer> octets = new ArrayList<>();
        for (int i = 0; i < size; i++) {
            octets.add(record.get(i / 16)[4 + i % 16 / 4] >>> (i % 4 * 8) & 255);
        }
        loaded = form(record) == 1 ? uncode(octets, new int[1]) : octets;
        return loaded.size();
    }

    int out(int i) {
        return i >= 0 && i < loaded.size() ? loaded.get(i) : -1;
    }

    int clean() {
        if (!on) {
            return -4;
        }
        int count = 0;
        try {
            for (int b = 0; b < 64; b++) {
                if (!live().contains(blocks[b]) && blocks[b][0] != 0) {
                    write(b, new int[8]);
                    count++;
                }
            }
            for (int b = 0; b < 64; b++) {
                if (blocks[b][0] != 0 && blocks[b][1] / 65536 == 2) {
                    write(b, new int[8]);
                    count++;
                }
            }
        } catch (PowerWent e) {
            return -4;
        }
        return count;
    }

    int power(int n) {
        if (n < -1 || n > 1000) {
            throw new IllegalArgumentException();
        }
        if (!on) {
            throw new IllegalStateException();
        }
        int before = toldPower;
        toldPower = n;
        return before;
    }

    int recover() {
        on = true;
        toldPower = -1;
        tape = new ArrayList<>();
        loaded = new ArrayList<>();
        place = -1;
        return texts().size();
    }

    int word(int block, int i) {
        if (block < 0 || block > 63 || i < 0 || i > 7) {
            throw new IndexOutOfBoundsException();
        }
        return blocks[block][i];
    }

    int told(int what) {
        switch (what) {
            case 0: return texts().size();
            case 1: return live().size();
            case 2: return 64 - live().size();
            case 3: return counting().size() - texts().size();
            case 4: return Arrays.stream(blocks).mapToInt(b -> b[0]).max().getAsInt();
            case 5: return writes;
            case 6: return on ? 1 : 0;
            case 7: return tape.size();
            default: throw new IndexOutOfBoundsException();
        }
    }

    int number(int key) {
        List<int[]> record = counting().get(key);
        if (record == null) {
            return -2;
        }
        return form(record) == 2 ? -record.get(0)[0] : record.get(0)[0];
    }

    int key(int k) {
        List<Integer> keys = new ArrayList<>(texts().keySet());
        return k >= 0 && k < keys.size() ? keys.get(k) : 0;
    }

    int pack() {
        loaded = code(takeTape());
        return loaded.size();
    }

    int unpack() {
        int[] fault = new int[1];
        List<Integer> made = uncode(takeTape(), fault);
        if (made == null) {
            place = fault[0];
            return -1;
        }
        loaded = made;
        return loaded.size();
    }

    int place() {
        return place;
    }

    private List<Integer> takeTape() {
        List<Integer> was = tape;
        tape = new ArrayList<>();
        return was;
    }

    private static int form(List<int[]> record) {
        return record.get(0)[1] / 65536;
    }

    private void write(int block, int[] words) {
        if (toldPower == 0) {
            on = false;
            throw new PowerWent();
        }
        toldPower = toldPower < 0 ? -1 : toldPower - 1;
        writes++;
        blocks[block] = words;
    }

    private int put(int key, int form, List<Integer> octets) {
        int parts = Math.max(1, (octets.size() + 15) / 16);
        List<Integer> free = new ArrayList<>();
        List<int[]> live = live();
        for (int b = 0; b < 64; b++) {
            if (!live.contains(blocks[b])) {
                free.add(b);
            }
        }
        if (free.size() < parts) {
            return -3;
        }
        int number = told(4) + 1;
        try {
            for (int p = 0; p < parts; p++) {
                int[] words = {number, p + 256 * parts + 65536 * form, key, octets.size(), 0, 0, 0, 0};
                for (int i = 16 * p; i < Math.min(octets.size(), 16 * p + 16); i++) {
                    words[4 + i % 16 / 4] += octets.get(i) << (i % 4 * 8);
                }
                write(free.get(p), words);
            }
        } catch (PowerWent e) {
            return -4;
        }
        return number;
    }

    /** Of each key the parts, in order, of the whole record with the greatest number. */
    private TreeMap<Integer, List<int[]>> counting() {
        TreeMap<Integer, Map<Integer, int[]>> records = new TreeMap<>();
        for (int[] b : blocks) {
            if (b[0] != 0) {
                records.computeIfAbsent(b[0], n -> new HashMap<>()).put(b[1] % 256, b);
            }
        }
        TreeMap<Integer, List<int[]>> answer = new TreeMap<>();
        for (Map<Integer, int[]> parts : records.values()) {
            int due = parts.values().iterator().next()[1] / 256 % 256;
            List<int[]> record = new ArrayList<>();
            for (int p = 0; p < due && parts.containsKey(p); p++) {
                record.add(parts.get(p));
            }
            if (record.size() == due) {
                answer.put(record.get(0)[2], record);
            }
        }
        return answer;
    }

    private TreeMap<Integer, List<int[]>> texts() {
        TreeMap<Integer, List<int[]>> answer = counting();
        answer.values().removeIf(r -> form(r) == 2);
        return answer;
    }

    /** The very rows of blocks: contains() compares rows of numbers by which row it is. */
    private List<int[]> live() {
        List<int[]> answer = new ArrayList<>();
        counting().values().forEach(answer::addAll);
        return answer;
    }

    static List<Integer> code(List<Integer> text) {
        List<List<Integer>> items = new ArrayList<>();
        for (int at = 0; at < text.size();) {
            int length = 0;
            int from = 0;
            for (int other = Math.max(0, at - 256); other < at; other++) {
                int same = 0;
                while (same < 258 && at + same < text.size()
                        && text.get(other + same).intValue() == text.get(at + same).intValue()) {
                    same++;
                }
                if (same >= length) {
                    length = same;
                    from = other;
                }
            }
            if (length >= 3) {
                items.add(List.of(at - from - 1, length - 3));
                at += length;
            } else {
                items.add(List.of(text.get(at)));
                at++;
            }
        }
        List<Integer> coded = new ArrayList<>();
        for (int i = 0; i < items.size(); i++) {
            if (i % 8 == 0) {
                int flag = 0;
                for (int j = i; j < Math.min(i + 8, items.size()); j++) {
                    flag += items.get(j).size() == 1 ? 1 << (j - i) : 0;
                }
                coded.add(flag);
            }
            coded.addAll(items.get(i));
        }
        return coded;
    }

    /** Null where there is a fault, whose place is then in fault[0]. */
    static List<Integer> uncode(List<Integer> coded, int[] fault) {
        List<Integer> text = new ArrayList<>();
        int at = 0;
        while (at < coded.size()) {
            int flagAt = at++;
            int flag = coded.get(flagAt);
            if (at == coded.size()) {
                fault[0] = flagAt;
                return null;
            }
            for (int bit = 0; bit < 8; bit++) {
                boolean one = flag / (1 << bit) % 2 == 1;
                if (at == coded.size()) {
                    if (one) {
                        fault[0] = flagAt;
                        return null;
                    }
                    continue;
                }
                if (!one && at + 1 == coded.size()) {
                    fault[0] = coded.size();
                    return null;
                }
                int back = one ? 0 : coded.get(at) + 1;
                int length = one ? 1 : coded.get(at + 1) + 3;
                if (back > text.size() || text.size() + length > 400) {
                    fault[0] = at;
                    return null;
                }
                for (int i = 0; i < length; i++) {
                    text.add(one ? coded.get(at) : text.get(text.size() - back));
                }
                at += one ? 1 : 2;
            }
        }
        return text;
    }
}
