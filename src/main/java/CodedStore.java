/**
 * A store of texts on a disk of blocks. Which record counts for a key, and which blocks are free,
 * is always read from the disk's words alone, so nothing has to be rebuilt when the power went.
 */
public final class CodedStore {
    public static final int NONE = -1;
    public static final int ABSENT = -2;
    public static final int ROOM = -3;
    public static final int OFF = -4;

    private static final int BLOCKS = 64;
    private static final int WORDS = 8;
    private static final int HEAD_WORDS = 4;
    private static final int PART_OCTETS = 16;

    private static final int FORM_PLAIN = 0;
    private static final int FORM_CODED = 1;
    private static final int FORM_GRAVE = 2;

    private static final int TEXT_MOST = 400;
    // 400 octets without any repetition take 50 flags more.
    private static final int CODED_MOST = 450;
    private static final int FEED_MOST = 8;
    private static final int POWER_MOST = 1000;

    private static final int ITEMS_IN_GROUP = 8;
    private static final int DISTANCE_MOST = 256;
    private static final int ROW_LEAST = 3;
    private static final int ROW_MOST = 258;

    private final Disk disk = new Disk();
    private final Catalog catalog = new Catalog(disk);
    private final Octets tape = new Octets();
    private final Octets loaded = new Octets();
    private final Octets content = new Octets();
    private final Octets decoded = new Octets();
    private final int[] row = new int[WORDS];
    private final int[] zeros = new int[WORDS];
    private int failedPlace = NONE;

    public CodedStore() {
    }

    public int feed(int n, long octets) throws IllegalArgumentException {
        if (n < 1 || n > FEED_MOST || tape.size() + n > TEXT_MOST) {
            throw new IllegalArgumentException();
        }
        for (int i = 0; i < n; i++) {
            tape.append((int) (octets >>> (8 * i)));
        }
        return tape.size();
    }

    public int commit(int key) {
        if (!disk.isOn()) {
            return OFF;
        }
        Coder.encode(tape, content);
        int form = FORM_CODED;
        if (content.size() >= tape.size()) {
            form = FORM_PLAIN;
            content.becomeLike(tape);
        }
        tape.empty();
        return putRecord(key, form);
    }

    public int delete(int key) {
        if (!disk.isOn()) {
            return OFF;
        }
        int first = surveyed().firstBlock(key);
        if (!catalog.isText(first)) {
            return ABSENT;
        }
        content.empty();
        return putRecord(key, FORM_GRAVE);
    }

    public int load(int key) {
        if (!disk.isOn()) {
            return OFF;
        }
        int first = surveyed().firstBlock(key);
        if (!catalog.isText(first)) {
            return ABSENT;
        }
        gatherContent(first);
        if (disk.formOf(first) == FORM_CODED) {
            Coder.decode(content, decoded);
            loaded.becomeLike(decoded);
        } else {
            loaded.becomeLike(content);
        }
        return loaded.size();
    }

    public int out(int i) {
        if (i < 0 || i >= loaded.size()) {
            return NONE;
        }
        return loaded.at(i);
    }

    public int clean() {
        if (!disk.isOn()) {
            return OFF;
        }
        surveyed();
        int became = 0;
        for (int block = 0; block < BLOCKS; block++) {
            if (catalog.isLeftOver(block)) {
                if (!disk.write(block, zeros)) {
                    return OFF;
                }
                became++;
            }
        }
        // Graves go last: as long as an older text may still lie there, its grave must hide it.
        for (int block = 0; block < BLOCKS; block++) {
            if (catalog.isLiveGrave(block)) {
                if (!disk.write(block, zeros)) {
                    return OFF;
                }
                became++;
            }
        }
        return became;
    }

    public int power(int n) throws IllegalArgumentException, IllegalStateException {
        if (n < NONE || n > POWER_MOST) {
            throw new IllegalArgumentException();
        }
        if (!disk.isOn()) {
            throw new IllegalStateException();
        }
        int before = disk.writesLeft();
        disk.allowWrites(n);
        return before;
    }

    public int recover() {
        disk.switchOn();
        tape.empty();
        loaded.empty();
        failedPlace = NONE;
        return surveyed().countTexts();
    }

    public int word(int block, int i) throws IndexOutOfBoundsException {
        if (block < 0 || block >= BLOCKS || i < 0 || i >= WORDS) {
            throw new IndexOutOfBoundsException();
        }
        return disk.wordAt(block, i);
    }

    public int told(int what) throws IndexOutOfBoundsException {
        switch (what) {
            case 0:
                return surveyed().countTexts();
            case 1:
                return surveyed().countLive();
            case 2:
                return BLOCKS - surveyed().countLive();
            case 3:
                return surveyed().countLiveGraves();
            case 4:
                return disk.greatestNumber();
            case 5:
                return disk.writesDone();
            case 6:
                return disk.isOn() ? 1 : 0;
            case 7:
                return tape.size();
            default:
                throw new IndexOutOfBoundsException();
        }
    }

    public int number(int key) {
        int first = surveyed().firstBlock(key);
        if (first == NONE) {
            return ABSENT;
        }
        return catalog.isText(first) ? disk.numberOf(first) : -disk.numberOf(first);
    }

    public int key(int k) {
        int first = surveyed().firstBlockOfRank(k);
        return first == NONE ? 0 : disk.keyOf(first);
    }

    public int pack() {
        Coder.encode(tape, loaded);
        tape.empty();
        return loaded.size();
    }

    public int unpack() {
        int fault = Coder.decode(tape, decoded);
        tape.empty();
        if (fault != NONE) {
            failedPlace = fault;
            return NONE;
        }
        loaded.becomeLike(decoded);
        return loaded.size();
    }

    public int place() {
        return failedPlace;
    }

    private Catalog surveyed() {
        catalog.survey();
        return catalog;
    }

    private int putRecord(int key, int form) {
        int parts = partsFor(content.size());
        // One survey for all parts: while they are written, the record that they replace still counts.
        if (BLOCKS - surveyed().countLive() < parts) {
            return ROOM;
        }
        int recordNumber = disk.greatestNumber() + 1;
        int part = 0;
        for (int block = 0; block < BLOCKS && part < parts; block++) {
            if (!catalog.isLive(block)) {
                fillRow(recordNumber, part, parts, form, key);
                if (!disk.write(block, row)) {
                    return OFF;
                }
                part++;
            }
        }
        return recordNumber;
    }

    private static int partsFor(int octets) {
        return octets <= PART_OCTETS ? 1 : (octets + PART_OCTETS - 1) / PART_OCTETS;
    }

    private void fillRow(int recordNumber, int part, int parts, int form, int key) {
        row[0] = recordNumber;
        row[1] = part + 256 * parts + 65536 * form;
        row[2] = key;
        row[3] = content.size();
        for (int i = HEAD_WORDS; i < WORDS; i++) {
            row[i] = content.fourFrom(PART_OCTETS * part + 4 * (i - HEAD_WORDS));
        }
    }

    private void gatherContent(int first) {
        content.empty();
        int parts = disk.partsOf(first);
        for (int part = 0; part < parts; part++) {
            int block = disk.blockOf(disk.numberOf(first), part);
            for (int i = 0; i < PART_OCTETS && content.size() < disk.octetsOf(first); i++) {
                content.append(disk.wordAt(block, HEAD_WORDS + i / 4) >>> (8 * (i % 4)));
            }
        }
    }

    /** Made once for the longest row that any call needs, so that no call makes an array. */
    private static final class Octets {
        private final int[] octets = new int[CODED_MOST];
        private int size;

        int size() {
            return size;
        }

        void empty() {
            size = 0;
        }

        void append(int value) {
            if (size >= 0 && size < octets.length) {
                octets[size] = value & 255;
                size++;
            }
        }

        /** Behind the last octet all is 0, as in a part that is not full. */
        int at(int i) {
            if (i < 0 || i >= size || i >= octets.length) {
                return 0;
            }
            return octets[i];
        }

        void setBit(int i, int bit) {
            if (i >= 0 && i < size && i < octets.length) {
                octets[i] |= 1 << bit;
            }
        }

        int fourFrom(int i) {
            return at(i) | at(i + 1) << 8 | at(i + 2) << 16 | at(i + 3) << 24;
        }

        void becomeLike(Octets other) {
            empty();
            for (int i = 0; i < other.size; i++) {
                append(other.at(i));
            }
        }

        void repeat(int distance, int length) {
            // One by one, because the octets may run into themselves.
            for (int i = 0; i < length; i++) {
                append(at(size - distance));
            }
        }
    }

    private static final class Disk {
        private final int[] words = new int[BLOCKS * WORDS];
        private boolean on = true;
        private int left = NONE;
        private int done;

        boolean isOn() {
            return on;
        }

        void switchOn() {
            on = true;
            left = NONE;
        }

        void allowWrites(int n) {
            left = n;
        }

        int writesLeft() {
            return left;
        }

        int writesDone() {
            return done;
        }

        boolean write(int block, int[] from) {
            if (!on || block < 0 || block >= BLOCKS || from == null || from.length < WORDS) {
                return false;
            }
            if (left == 0) {
                on = false;
                return false;
            }
            for (int i = 0; i < WORDS; i++) {
                words[block * WORDS + i] = from[i];
            }
            if (left > 0) {
                left--;
            }
            done++;
            return true;
        }

        int wordAt(int block, int i) {
            if (block < 0 || block >= BLOCKS || i < 0 || i >= WORDS) {
                return 0;
            }
            return words[block * WORDS + i];
        }

        int numberOf(int block) {
            return wordAt(block, 0);
        }

        int partOf(int block) {
            return wordAt(block, 1) & 255;
        }

        int partsOf(int block) {
            return wordAt(block, 1) >> 8 & 255;
        }

        int formOf(int block) {
            return wordAt(block, 1) >> 16;
        }

        int keyOf(int block) {
            return wordAt(block, 2);
        }

        int octetsOf(int block) {
            return wordAt(block, 3);
        }

        int greatestNumber() {
            int greatest = 0;
            for (int block = 0; block < BLOCKS; block++) {
                greatest = Math.max(greatest, numberOf(block));
            }
            return greatest;
        }

        int blockOf(int recordNumber, int part) {
            for (int block = 0; block < BLOCKS; block++) {
                if (numberOf(block) == recordNumber && partOf(block) == part) {
                    return block;
                }
            }
            return NONE;
        }
    }

    /** Holds nothing that the disk does not tell: it is a survey of the blocks, made anew after writes. */
    private static final class Catalog {
        private final Disk disk;
        private final boolean[] whole = new boolean[BLOCKS];
        private final boolean[] live = new boolean[BLOCKS];
        private int surveyedAt = NONE;

        Catalog(Disk disk) {
            this.disk = disk;
        }

        void survey() {
            // Only a write changes a block, so the count of writes tells whether the survey still holds.
            if (surveyedAt == disk.writesDone()) {
                return;
            }
            for (int block = 0; block < BLOCKS; block++) {
                whole[block] = disk.numberOf(block) != 0 && hasAllParts(block);
            }
            for (int block = 0; block < BLOCKS; block++) {
                live[block] = whole[block] && !isOutdone(block);
            }
            surveyedAt = disk.writesDone();
        }

        private boolean hasAllParts(int block) {
            // No number is given again while a block bears it, so blocks of one number are of one record.
            int found = 0;
            for (int other = 0; other < BLOCKS; other++) {
                if (disk.numberOf(other) == disk.numberOf(block)) {
                    found++;
                }
            }
            return found == disk.partsOf(block);
        }

        private boolean isOutdone(int block) {
            for (int other = 0; other < BLOCKS; other++) {
                if (whole[other] && disk.keyOf(other) == disk.keyOf(block)
                        && disk.numberOf(other) > disk.numberOf(block)) {
                    return true;
                }
            }
            return false;
        }

        boolean isLive(int block) {
            return block >= 0 && block < BLOCKS && live[block];
        }

        boolean isLeftOver(int block) {
            return !isLive(block) && disk.numberOf(block) != 0;
        }

        boolean isLiveGrave(int block) {
            return isLive(block) && disk.formOf(block) == FORM_GRAVE;
        }

        // Asks for part 0, so that a text of several blocks is one text.
        boolean isText(int block) {
            return isLive(block) && disk.partOf(block) == 0 && disk.formOf(block) != FORM_GRAVE;
        }

        int firstBlock(int key) {
            for (int block = 0; block < BLOCKS; block++) {
                if (isLive(block) && disk.partOf(block) == 0 && disk.keyOf(block) == key) {
                    return block;
                }
            }
            return NONE;
        }

        int firstBlockOfRank(int rank) {
            for (int block = 0; block < BLOCKS; block++) {
                if (isText(block) && countTextsBelow(disk.keyOf(block)) == rank) {
                    return block;
                }
            }
            return NONE;
        }

        private int countTextsBelow(int key) {
            int count = 0;
            for (int block = 0; block < BLOCKS; block++) {
                if (isText(block) && disk.keyOf(block) < key) {
                    count++;
                }
            }
            return count;
        }

        int countTexts() {
            int count = 0;
            for (int block = 0; block < BLOCKS; block++) {
                if (isText(block)) {
                    count++;
                }
            }
            return count;
        }

        int countLive() {
            int count = 0;
            for (int block = 0; block < BLOCKS; block++) {
                if (isLive(block)) {
                    count++;
                }
            }
            return count;
        }

        int countLiveGraves() {
            int count = 0;
            for (int block = 0; block < BLOCKS; block++) {
                if (isLiveGrave(block)) {
                    count++;
                }
            }
            return count;
        }
    }

    private static final class Coder {
        static void encode(Octets from, Octets to) {
            to.empty();
            int flagPlace = 0;
            int items = 0;
            int next = 0;
            for (int at = 0; at < from.size(); at++) {
                if (at < next) {
                    continue;
                }
                int bit = items % ITEMS_IN_GROUP;
                if (bit == 0) {
                    flagPlace = to.size();
                    to.append(0);
                }
                int distance = bestDistance(from, at);
                if (distance == 0) {
                    to.setBit(flagPlace, bit);
                    to.append(from.at(at));
                    next = at + 1;
                } else {
                    int length = rowLength(from, at, distance);
                    to.append(distance - 1);
                    to.append(length - ROW_LEAST);
                    next = at + length;
                }
                items++;
            }
        }

        private static int bestDistance(Octets from, int at) {
            int most = Math.min(ROW_MOST, from.size() - at);
            // Beginning below the least row, and going on only for a longer one, keeps the least distance.
            int longest = ROW_LEAST - 1;
            int best = 0;
            for (int distance = 1; distance <= DISTANCE_MOST && distance <= at && longest < most; distance++) {
                int length = rowLength(from, at, distance);
                if (length > longest) {
                    longest = length;
                    best = distance;
                }
            }
            return best;
        }

        private static int rowLength(Octets from, int at, int distance) {
            int most = Math.min(ROW_MOST, from.size() - at);
            for (int length = 0; length < most; length++) {
                if (from.at(at + length) != from.at(at + length - distance)) {
                    return length;
                }
            }
            return most;
        }

        /** Answers the place of the first fault, or NONE. */
        static int decode(Octets from, Octets to) {
            to.empty();
            int flagPlace = 0;
            int bit = ITEMS_IN_GROUP;
            int next = 0;
            for (int at = 0; at < from.size(); at++) {
                if (at < next) {
                    continue;
                }
                if (bit == ITEMS_IN_GROUP) {
                    flagPlace = at;
                    bit = 0;
                    next = at + 1;
                    continue;
                }
                boolean single = (from.at(flagPlace) >> bit & 1) == 1;
                int fault = single ? decodeSingle(from, at, to) : decodeRow(from, at, to);
                if (fault != NONE) {
                    return fault;
                }
                next = single ? at + 1 : at + 2;
                bit++;
            }
            // A last flag tells too much when no item came, or when it has a bit behind the last item.
            boolean tooMuch = bit == 0 && from.size() > 0 || from.at(flagPlace) >> bit != 0;
            return tooMuch ? flagPlace : NONE;
        }

        private static int decodeSingle(Octets from, int at, Octets to) {
            if (to.size() + 1 > TEXT_MOST) {
                return at;
            }
            to.append(from.at(at));
            return NONE;
        }

        private static int decodeRow(Octets from, int at, Octets to) {
            if (at + 1 >= from.size()) {
                return from.size();
            }
            int distance = from.at(at) + 1;
            int length = from.at(at + 1) + ROW_LEAST;
            if (distance > to.size() || to.size() + length > TEXT_MOST) {
                return at;
            }
            to.repeat(distance, length);
            return NONE;
        }
    }
}
