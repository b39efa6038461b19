import java.util.Arrays;

/**
 * A disk that clicks: flux of four drives, read by a format, put to votes and written anew.
 * All rows are made in the constructor and used again, so that no call makes an object.
 */
public final class ClickingDisk {
    public static final int NONE = -1;

    private static final int NO_HOPE = -999;
    private static final int TEXT_LIMIT = 200;
    private static final int FED_BYTES = 20;
    private static final int STEP_LIMIT = 320;
    private static final int STEP_TOP = 255;
    private static final int BITS_A_STEP = 8;
    private static final int READ_LIMIT = 10;
    private static final int DRIVES = 4;
    private static final int SECTOR_LIMIT = 8;
    private static final int DATA_LIMIT = 8;
    private static final int BYTES_BESIDE_DATA = 4;
    private static final int BITS_A_BYTE = 16;
    private static final int MARK_BITS = 16;
    private static final int CELL_LOW = 8;
    private static final int CELL_HIGH = 60;
    private static final int CELL_SPREAD = 6;
    private static final int GAIN_HIGH = 8;
    private static final int MENDING_LIMIT = 4096;
    private static final int BYTE_TOP = 255;
    private static final int WORD_TOP = 65535;

    private static final int CLUSTERS = 24;
    private static final int TRACKS = 6;
    private static final int CLUSTERS_A_TRACK = 4;
    private static final int LAST = 24;
    private static final int FREE = 25;
    private static final int BAD = 26;
    private static final int FILE_LIMIT = 6;
    private static final int CATALOGUES = 2;
    private static final int JOINED = 2;
    private static final int UNLIKE_LIMIT = 12;

    private static final int STATUS_NONE = 0;
    private static final int STATUS_RIGHT = 1;
    private static final int STATUS_STRIFE = 2;
    private static final int STATUS_MENDED = 3;
    private static final int STATUS_OPEN = 4;

    private static final int SUM_ADD = 0;
    private static final int SUM_XOR = 1;
    private static final int SUM_CRC = 2;

    private final FormatText text = new FormatText();
    private final Layout draft = new Layout();
    private final Layout layout = new Layout();
    private final Tape tape = new Tape();
    private final RawBits bits = new RawBits();
    private final Shelf shelf = new Shelf();
    private final Jury jury = new Jury();
    private final Disk disk = new Disk();
    private final Scribe scribe = new Scribe();

    public ClickingDisk() {
    }

    public int feed(int a, int b, int c, int d, int e) {
        if (text.size + FED_BYTES > TEXT_LIMIT) {
            return NONE;
        }
        text.push(a);
        text.push(b);
        text.push(c);
        text.push(d);
        text.push(e);
        return text.size;
    }

    public boolean end(int n) {
        if (n < 0 || n > text.size) {
            return false;
        }
        text.size = n;
        return true;
    }

    public int fault() {
        return text.parse(draft);
    }

    public int format() {
        if (text.parse(draft) != NONE) {
            return NONE;
        }
        layout.take(draft);
        text.size = 0;
        tape.size = 0;
        shelf.size = 0;
        jury.forget();
        return layout.size;
    }

    public int flux(int a, int b, int c, int d, int e) {
        int more = stepsIn(a) + stepsIn(b) + stepsIn(c) + stepsIn(d) + stepsIn(e);
        if (tape.size + more > STEP_LIMIT) {
            return NONE;
        }
        tape.push(a);
        tape.push(b);
        tape.push(c);
        tape.push(d);
        tape.push(e);
        return tape.size;
    }

    public int wipe() {
        int had = tape.size;
        tape.size = 0;
        return had;
    }

    public int read(int drive) {
        if (!layout.stands || !isDrive(drive) || shelf.size >= READ_LIMIT) {
            return NONE;
        }
        shelf.put(tape, drive, layout, bits);
        tape.size = 0;
        jury.forget();
        return shelf.size - 1;
    }

    public int raw(int p, int g, int k) {
        if (p < CELL_LOW || p > CELL_HIGH || g < 0 || g > GAIN_HIGH) {
            return NONE;
        }
        bits.fill(tape, p, g);
        if (k == NONE) {
            return bits.size;
        }
        return k >= 0 && k < bits.size ? bits.row[k] : NONE;
    }

    public int found(int read, int k, int what) {
        if (!shelf.holds(read)) {
            return NONE;
        }
        Find find = shelf.takes[read].find;
        if (k == NONE) {
            return find.size;
        }
        if (k < 0 || k >= find.size) {
            return NONE;
        }
        return ofSector(find.sectors[k], what);
    }

    public int tuned(int read, int what) {
        if (!shelf.holds(read) || what < 0 || what > 3) {
            return NONE;
        }
        shelf.tune(read, layout, bits);
        Take take = shelf.takes[read];
        switch (what) {
            case 0:
                return take.bestCell;
            case 1:
                return take.bestGain;
            case 2:
                return take.bestRight;
            default:
                return take.bestSlips;
        }
    }

    public int status(int track, int sector, int what) {
        if (what < 0 || what > 2 || !canJudge(track, sector)) {
            return NONE;
        }
        jury.judge(track, sector, shelf, layout);
        switch (what) {
            case 0:
                return jury.verdict;
            case 1:
                return jury.size;
            default:
                return jury.right;
        }
    }

    public int value(int track, int sector, int i) {
        if (!canJudge(track, sector) || i < 0 || i >= layout.size) {
            return NONE;
        }
        jury.judge(track, sector, shelf, layout);
        return jury.vote(i);
    }

    public boolean tell(int catalogue, int cluster, int next) {
        if (catalogue < 0 || catalogue >= CATALOGUES || !isCluster(cluster) || next < 0 || next > BAD) {
            return false;
        }
        disk.write(catalogue, cluster, next);
        return true;
    }

    public int file(int first, int length) {
        if (!isCluster(first) || length < 1 || length > CLUSTERS || disk.files >= FILE_LIMIT) {
            return NONE;
        }
        disk.add(first, length);
        return disk.files - 1;
    }

    public int mishaps(int catalogue) {
        int[] row = disk.rowOf(catalogue);
        return row == null ? NONE : disk.faultsBy(row);
    }

    public int next(int catalogue, int cluster) {
        int[] row = disk.rowOf(catalogue);
        return row == null || !isCluster(cluster) ? NONE : row[cluster];
    }

    public int chain(int catalogue, int file, int k) {
        int[] row = disk.rowOf(catalogue);
        if (row == null || !disk.holds(file)) {
            return NONE;
        }
        disk.walk(row, file);
        if (k == NONE) {
            return disk.walked;
        }
        return k >= 0 && k < disk.walked ? disk.path[k] : NONE;
    }

    public int gaps(int file) {
        int[] row = disk.rowOf(JOINED);
        if (!layout.stands || row == null || !disk.holds(file)) {
            return NONE;
        }
        disk.walk(row, file);
        int all = 0;
        for (int i = 0; i < disk.walked; i++) {
            if (!soundStatus(jury.judgeCluster(disk.path[i], shelf, layout))) {
                all++;
            }
        }
        return all;
    }

    public int hope(int drive) {
        if (!layout.stands || !isDrive(drive)) {
            return NO_HOPE;
        }
        return shelf.hopeOf(drive);
    }

    public int ask(int what) {
        if (!layout.stands || what < 0 || what > 1) {
            return NONE;
        }
        return what == 0 ? bestDrive() : worstTrack();
    }

    public int written(int track, int sector, int k) {
        if (!canJudge(track, sector)) {
            return NONE;
        }
        jury.judge(track, sector, shelf, layout);
        if (!soundStatus(jury.verdict) || !scribe.write(layout, track, sector, jury.data)) {
            return NONE;
        }
        if (k == NONE) {
            return scribe.size;
        }
        return k >= 0 && k < scribe.size ? scribe.steps[k] : NONE;
    }

    public int count(int what) {
        switch (what) {
            case 0:
                return layout.size;
            case 1:
                return layout.cell;
            case 2:
                return layout.gain;
            case 3:
                return shelf.size;
            case 4:
                return tape.size;
            case 5:
                return disk.files;
            case 6:
                return text.size;
            default:
                return NONE;
        }
    }

    private int ofSector(Sector sector, int what) {
        switch (what) {
            case 0:
                return sector.place;
            case 1:
                return sector.track;
            case 2:
                return sector.number;
            case 3:
                return sector.sumRead;
            case 4:
                return sector.sumDue;
            case 5:
                return sector.slips;
            default:
                return what >= 10 && what < 10 + layout.size ? sector.data[what - 10] : NONE;
        }
    }

    private boolean canJudge(int track, int sector) {
        return layout.stands && track >= 0 && track <= BYTE_TOP && sector >= 0 && sector <= BYTE_TOP;
    }

    private int bestDrive() {
        int best = 0;
        int bestHope = shelf.hopeOf(0);
        for (int drive = 1; drive < DRIVES; drive++) {
            int hope = shelf.hopeOf(drive);
            if (hope > bestHope) {
                best = drive;
                bestHope = hope;
            }
        }
        return best;
    }

    private int worstTrack() {
        int counted = disk.inFiles();
        int worst = 0;
        int most = 0;
        for (int track = 0; track < TRACKS; track++) {
            int missing = 0;
            for (int i = 0; i < CLUSTERS_A_TRACK; i++) {
                int cluster = track * CLUSTERS_A_TRACK + i;
                boolean counts = (counted >> cluster & 1) != 0;
                if (counts && !soundStatus(jury.judgeCluster(cluster, shelf, layout))) {
                    missing++;
                }
            }
            if (missing > most) {
                worst = track;
                most = missing;
            }
        }
        return worst;
    }

    private static boolean isDrive(int drive) {
        return drive >= 0 && drive < DRIVES;
    }

    private static boolean isCluster(int cluster) {
        return cluster >= 0 && cluster < CLUSTERS;
    }

    private static boolean soundStatus(int status) {
        return status == STATUS_RIGHT || status == STATUS_MENDED;
    }

    /** Byte i (0 the highest) of a number. */
    private static int byteOf(int number, int i) {
        return number >>> (24 - 8 * i) & BYTE_TOP;
    }

    private static int stepsIn(int number) {
        int steps = 0;
        for (int i = 0; i < 4; i++) {
            if (byteOf(number, i) != 0) {
                steps++;
            }
        }
        return steps;
    }

    /** The clock between two bits of bytes. */
    private static int clockDue(int ahead, int behind) {
        return ahead == 0 && behind == 0 ? 1 : 0;
    }

    /** A FORMAT, and the sum that it asks for. */
    private static final class Layout {
        boolean stands;
        int cell;
        int gain;
        int mark;
        int size;
        int sumKind;
        int crcTurn;
        int crcStart;
        boolean swapped;

        void clear() {
            stands = false;
            cell = 0;
            gain = 0;
            mark = 0;
            size = 0;
            sumKind = SUM_ADD;
            crcTurn = 0;
            crcStart = 0;
            swapped = false;
        }

        void take(Layout other) {
            stands = true;
            cell = other.cell;
            gain = other.gain;
            mark = other.mark;
            size = other.size;
            sumKind = other.sumKind;
            crcTurn = other.crcTurn;
            crcStart = other.crcStart;
            swapped = other.swapped;
        }

        int firstByte(int track, int number) {
            return swapped ? number : track;
        }

        int secondByte(int track, int number) {
            return swapped ? track : number;
        }

        /** The sum of the two bytes ahead of the data. */
        int sumOfHead(int track, int number) {
            int start = sumKind == SUM_CRC ? crcStart : 0;
            return sumWith(sumWith(start, firstByte(track, number)), secondByte(track, number));
        }

        int sumOf(int track, int number, int[] data) {
            int sum = sumOfHead(track, number);
            for (int i = 0; i < size && i < data.length; i++) {
                sum = sumWith(sum, data[i]);
            }
            return sum;
        }

        int sumWith(int sum, int more) {
            if (sumKind == SUM_ADD) {
                return sum + more & WORD_TOP;
            }
            if (sumKind == SUM_XOR) {
                return sum ^ more;
            }
            int v = sum ^ more << 8;
            for (int i = 0; i < 8; i++) {
                v = (v & 0x8000) != 0 ? v << 1 ^ crcTurn : v << 1;
            }
            return v & WORD_TOP;
        }
    }

    /** The text of a FORMAT, and its reader: one TOKEN is looked at at a time. */
    private static final class FormatText {
        private static final int WORD = 0;
        private static final int NUMBER = 1;
        private static final int STOP = 2;
        private static final int OVER = 3;
        private static final int NOTHING = 4;

        private static final int CELL = 0;
        private static final int GAIN = 1;
        private static final int MARK = 2;
        private static final int DATA = 3;
        private static final int SUM = 4;
        private static final int SWAP = 5;
        private static final int NEEDED = 1 << CELL | 1 << MARK | 1 << DATA | 1 << SUM;

        /** Above every number that may stand, and low enough to be multiplied by ten. */
        private static final int NUMBER_TOP = 1000000;

        final int[] bytes = new int[TEXT_LIMIT];
        int size;
        private int kind;
        private int start;
        private int after;
        private int number;
        private int taken;
        private int told;

        void push(int word) {
            for (int i = 0; i < 4 && size < TEXT_LIMIT; i++) {
                bytes[size] = byteOf(word, i);
                size++;
            }
        }

        /** The FAULT; without one the layout is what the text tells. */
        int parse(Layout into) {
            into.clear();
            told = 0;
            after = 0;
            step();
            for (int lines = 0; lines < TEXT_LIMIT && kind != OVER; lines++) {
                int line = lineBegun();
                if (line == NONE || (told >> line & 1) != 0) {
                    return start;
                }
                told |= 1 << line;
                step();
                if (!takeRest(line, into) || !takeStop()) {
                    return start;
                }
            }
            return (told & NEEDED) == NEEDED ? NONE : size;
        }

        private int lineBegun() {
            if (isWord("cell")) {
                return CELL;
            }
            if (isWord("gain")) {
                return GAIN;
            }
            if (isWord("mark")) {
                return MARK;
            }
            if (isWord("data")) {
                return DATA;
            }
            if (isWord("sum")) {
                return SUM;
            }
            return isWord("swap") ? SWAP : NONE;
        }

        private boolean takeRest(int line, Layout into) {
            boolean fits;
            switch (line) {
                case CELL:
                    fits = takeNumber(CELL_LOW, CELL_HIGH);
                    into.cell = taken;
                    return fits;
                case GAIN:
                    fits = takeNumber(0, GAIN_HIGH);
                    into.gain = taken;
                    return fits;
                case MARK:
                    return takeMark(into);
                case DATA:
                    fits = takeNumber(1, DATA_LIMIT);
                    into.size = taken;
                    return fits;
                case SUM:
                    return takeSum(into);
                default:
                    into.swapped = true;
                    return true;
            }
        }

        private boolean takeMark(Layout into) {
            if (!takeNumber(0, BYTE_TOP)) {
                return false;
            }
            into.mark = taken << 8;
            if (!takeNumber(0, BYTE_TOP)) {
                return false;
            }
            into.mark |= taken;
            return true;
        }

        private boolean takeSum(Layout into) {
            if (isWord("add")) {
                into.sumKind = SUM_ADD;
                step();
                return true;
            }
            if (isWord("xor")) {
                into.sumKind = SUM_XOR;
                step();
                return true;
            }
            if (!isWord("crc")) {
                return false;
            }
            into.sumKind = SUM_CRC;
            step();
            if (!takeNumber(0, WORD_TOP)) {
                return false;
            }
            into.crcTurn = taken;
            if (!takeNumber(0, WORD_TOP)) {
                return false;
            }
            into.crcStart = taken;
            return true;
        }

        private boolean takeNumber(int low, int high) {
            if (kind != NUMBER || number < low || number > high) {
                return false;
            }
            taken = number;
            step();
            return true;
        }

        private boolean takeStop() {
            if (kind != STOP) {
                return false;
            }
            step();
            return true;
        }

        private boolean isWord(String word) {
            if (kind != WORD || after - start != word.length()) {
                return false;
            }
            for (int i = 0; i < word.length() && start + i < size; i++) {
                if (bytes[start + i] != word.charAt(i)) {
                    return false;
                }
            }
            return true;
        }

        /** Goes on to the next TOKEN; behind the last one it is OVER, at the text's length. */
        private void step() {
            while (after < size && (bytes[after] == ' ' || bytes[after] == '\n')) {
                after++;
            }
            start = after;
            kind = kindAt(start);
            number = 0;
            while (after < size && (after == start || isLong() && kindAt(after) == kind)) {
                if (kind == NUMBER) {
                    number = Math.min(number * 10 + bytes[after] - '0', NUMBER_TOP);
                }
                after++;
            }
        }

        private boolean isLong() {
            return kind == WORD || kind == NUMBER;
        }

        private int kindAt(int place) {
            if (place < 0 || place >= size) {
                return OVER;
            }
            int sign = bytes[place];
            if (sign >= 'a' && sign <= 'z') {
                return WORD;
            }
            if (sign >= '0' && sign <= '9') {
                return NUMBER;
            }
            return sign == ';' ? STOP : NOTHING;
        }
    }

    /** The STEPS of the TAPE, or of a READ. */
    private static final class Tape {
        final int[] steps = new int[STEP_LIMIT];
        int size;

        void push(int word) {
            for (int i = 0; i < 4; i++) {
                int step = byteOf(word, i);
                if (step != 0 && size < STEP_LIMIT) {
                    steps[size] = step;
                    size++;
                }
            }
        }

        void take(Tape other) {
            System.arraycopy(other.steps, 0, steps, 0, other.size);
            size = other.size;
        }
    }

    /** RAW bits of a TAPE. */
    private static final class RawBits {
        final int[] row = new int[STEP_LIMIT * BITS_A_STEP];
        int size;

        /** The cell is 8 .. 60, so that the clock is never 0. */
        void fill(Tape tape, int cell, int gain) {
            size = 0;
            int low = Math.max(12 * cell, 1);
            int high = Math.max(20 * cell, 1);
            int clock = Math.max(16 * cell, 1);
            for (int i = 0; i < tape.size; i++) {
                int step = tape.steps[i];
                int n = Math.max(1, Math.min(BITS_A_STEP, (32 * step + clock) / (2 * clock)));
                push(n);
                int off = 16 * step / n - clock;
                clock += Math.floorDiv(off * gain, 32);
                clock = Math.max(low, Math.min(high, clock));
            }
        }

        private void push(int n) {
            if (size + n > row.length) {
                return;
            }
            for (int i = 1; i < n; i++) {
                row[size] = 0;
                size++;
            }
            row[size] = 1;
            size++;
        }
    }

    /** A SECTOR as it was found. */
    private static final class Sector {
        int place;
        int track;
        int number;
        int sumRead;
        int sumDue;
        int slips;
        final int[] data = new int[DATA_LIMIT];

        boolean isRight() {
            return sumRead == sumDue;
        }

        /** All bytes must be there: the finder looks at that ahead. */
        void take(RawBits bits, int at, Layout layout) {
            place = at;
            int first = byteAt(bits, 0);
            int second = byteAt(bits, 1);
            track = layout.firstByte(first, second);
            number = layout.secondByte(first, second);
            int size = Math.min(layout.size, DATA_LIMIT);
            for (int i = 0; i < size; i++) {
                data[i] = byteAt(bits, 2 + i);
            }
            sumRead = byteAt(bits, 2 + size) << 8 | byteAt(bits, 3 + size);
            sumDue = layout.sumOf(track, number, data);
            slips = slipsIn(bits, layout);
        }

        boolean hasData(Sector other, int size) {
            for (int i = 0; i < size && i < DATA_LIMIT; i++) {
                if (data[i] != other.data[i]) {
                    return false;
                }
            }
            return true;
        }

        /** Byte i of data; behind the data the two bytes of the sum. */
        int byteOrSum(int i, int size) {
            if (i >= 0 && i < size && i < DATA_LIMIT) {
                return data[i];
            }
            return i == size ? sumRead >> 8 : sumRead & BYTE_TOP;
        }

        private int byteAt(RawBits bits, int i) {
            int from = place + i * BITS_A_BYTE;
            int value = 0;
            for (int at = from + 1; at < from + BITS_A_BYTE && at < bits.size; at += 2) {
                value = value << 1 | bits.row[at];
            }
            return value;
        }

        private int slipsIn(RawBits bits, Layout layout) {
            int behindAll = place + (BYTES_BESIDE_DATA + layout.size) * BITS_A_BYTE;
            int all = 0;
            int ahead = layout.mark & 1;
            for (int at = place; at + 1 < behindAll && at + 1 < bits.size; at += 2) {
                int bit = bits.row[at + 1];
                if (bits.row[at] != clockDue(ahead, bit)) {
                    all++;
                }
                ahead = bit;
            }
            return all;
        }
    }

    /** The SECTORS that are found in RAW bits. */
    private static final class Find {
        final Sector[] sectors = new Sector[SECTOR_LIMIT];
        int size;

        Find() {
            for (int i = 0; i < SECTOR_LIMIT; i++) {
                sectors[i] = new Sector();
            }
        }

        void search(RawBits bits, Layout layout) {
            size = 0;
            int length = (BYTES_BESIDE_DATA + layout.size) * BITS_A_BYTE;
            int window = 0;
            int held = 0;
            for (int at = 0; at + length < bits.size && size < SECTOR_LIMIT; at++) {
                window = (window << 1 | bits.row[at]) & WORD_TOP;
                held++;
                if (held >= MARK_BITS && window == layout.mark) {
                    sectors[size].take(bits, at + 1, layout);
                    size++;
                    at += length;
                    held = 0;
                }
            }
        }

        int rightOnes() {
            int all = 0;
            for (int i = 0; i < size; i++) {
                if (sectors[i].isRight()) {
                    all++;
                }
            }
            return all;
        }

        int slipsOfRight() {
            int all = 0;
            for (int i = 0; i < size; i++) {
                if (sectors[i].isRight()) {
                    all += sectors[i].slips;
                }
            }
            return all;
        }
    }

    /** A READ; how it is tuned is kept, as it is dear to look for. */
    private static final class Take {
        final Tape tape = new Tape();
        final Find find = new Find();
        int drive;
        boolean isTuned;
        int bestCell;
        int bestGain;
        int bestRight;
        int bestSlips;
    }

    /** All READS. */
    private static final class Shelf {
        final Take[] takes = new Take[READ_LIMIT];
        int size;
        private final Find trial = new Find();

        Shelf() {
            for (int i = 0; i < READ_LIMIT; i++) {
                takes[i] = new Take();
            }
        }

        boolean holds(int read) {
            return read >= 0 && read < size;
        }

        void put(Tape tape, int drive, Layout layout, RawBits bits) {
            if (size >= READ_LIMIT) {
                return;
            }
            Take take = takes[size];
            take.tape.take(tape);
            take.drive = drive;
            take.isTuned = false;
            bits.fill(tape, layout.cell, layout.gain);
            take.find.search(bits, layout);
            size++;
        }

        void tune(int read, Layout layout, RawBits bits) {
            if (!holds(read) || takes[read].isTuned) {
                return;
            }
            Take take = takes[read];
            take.isTuned = true;
            take.bestRight = -1;
            int low = Math.max(CELL_LOW, layout.cell - CELL_SPREAD);
            int high = Math.min(CELL_HIGH, layout.cell + CELL_SPREAD);
            for (int cell = low; cell <= high; cell++) {
                for (int gain = 0; gain <= GAIN_HIGH; gain++) {
                    bits.fill(take.tape, cell, gain);
                    trial.search(bits, layout);
                    keepBetter(take, cell, gain);
                }
            }
        }

        private void keepBetter(Take take, int cell, int gain) {
            int right = trial.rightOnes();
            int slips = trial.slipsOfRight();
            if (right > take.bestRight || right == take.bestRight && slips < take.bestSlips) {
                take.bestCell = cell;
                take.bestGain = gain;
                take.bestRight = right;
                take.bestSlips = slips;
            }
        }

        int hopeOf(int drive) {
            int reads = 0;
            int all = 0;
            int right = 0;
            for (int i = 0; i < size; i++) {
                if (takes[i].drive == drive) {
                    reads++;
                    all += takes[i].find.size;
                    right += takes[i].find.rightOnes();
                }
            }
            int share = all > 0 ? 100 * right / all : 50;
            return share - 10 * reads;
        }
    }

    /** COPIES of one SECTOR and what comes of them; the last verdict is kept until a READ comes. */
    private static final class Jury {
        private static final int COPY_LIMIT = READ_LIMIT * SECTOR_LIMIT;
        private static final int SPOT_LIMIT = DATA_LIMIT + 2;
        private static final int UNKNOWN = -1;
        private static final int SURE = 256;

        int size;
        int right;
        int verdict;
        final int[] data = new int[DATA_LIMIT];
        private final Sector[] copies = new Sector[COPY_LIMIT];
        private int track = UNKNOWN;
        private int number = UNKNOWN;
        private final int[] ofClusters = new int[CLUSTERS];
        private final int[][] kinds = new int[SPOT_LIMIT][COPY_LIMIT];
        private final int[] kindsAt = new int[SPOT_LIMIT];
        private final int[] chosen = new int[DATA_LIMIT];
        private final int[] sums = new int[DATA_LIMIT + 1];
        private final int[] tally = new int[BYTE_TOP + 1];

        Jury() {
            Arrays.fill(ofClusters, UNKNOWN);
        }

        void forget() {
            track = UNKNOWN;
            number = UNKNOWN;
            Arrays.fill(ofClusters, UNKNOWN);
        }

        int judgeCluster(int cluster, Shelf shelf, Layout layout) {
            if (!isCluster(cluster)) {
                return STATUS_NONE;
            }
            if (ofClusters[cluster] == UNKNOWN) {
                judge(cluster / CLUSTERS_A_TRACK, cluster % CLUSTERS_A_TRACK, shelf, layout);
                ofClusters[cluster] = verdict;
            }
            return ofClusters[cluster];
        }

        void judge(int ofTrack, int ofNumber, Shelf shelf, Layout layout) {
            if (track == ofTrack && number == ofNumber) {
                return;
            }
            track = ofTrack;
            number = ofNumber;
            gather(shelf);
            if (size == 0) {
                verdict = STATUS_NONE;
            } else if (right > 0) {
                verdict = rightAgree(layout.size) ? STATUS_RIGHT : STATUS_STRIFE;
            } else {
                verdict = mend(layout) ? STATUS_MENDED : STATUS_OPEN;
            }
        }

        /** Byte i of data, 256 more if it is sure; NONE without a COPY. */
        int vote(int i) {
            if (size == 0 || i < 0 || i >= DATA_LIMIT) {
                return NONE;
            }
            if (soundStatus(verdict)) {
                return data[i] + SURE;
            }
            Arrays.fill(tally, 0);
            for (int c = 0; c < size; c++) {
                tally[copies[c].data[i] & BYTE_TOP]++;
            }
            int best = 0;
            for (int b = 1; b <= BYTE_TOP; b++) {
                if (tally[b] > tally[best]) {
                    best = b;
                }
            }
            return 2 * tally[best] > size ? best + SURE : best;
        }

        private void gather(Shelf shelf) {
            size = 0;
            right = 0;
            for (int r = 0; r < shelf.size; r++) {
                Find find = shelf.takes[r].find;
                for (int s = 0; s < find.size && size < COPY_LIMIT; s++) {
                    Sector sector = find.sectors[s];
                    if (sector.track == track && sector.number == number) {
                        copies[size] = sector;
                        size++;
                        right += sector.isRight() ? 1 : 0;
                    }
                }
            }
        }

        /** Whether all right COPIES have the same data, which is then that of the SECTOR. */
        private boolean rightAgree(int bytes) {
            Sector first = null;
            for (int c = 0; c < size; c++) {
                if (copies[c].isRight()) {
                    if (first == null) {
                        first = copies[c];
                    } else if (!first.hasData(copies[c], bytes)) {
                        return false;
                    }
                }
            }
            if (first == null) {
                return false;
            }
            System.arraycopy(first.data, 0, data, 0, DATA_LIMIT);
            return true;
        }

        /** Whether just one row has the right sum; its data are then those of the SECTOR. */
        private boolean mend(Layout layout) {
            int bytes = Math.min(layout.size, DATA_LIMIT);
            if (!gatherKinds(bytes)) {
                return false;
            }
            int rows = 1;
            for (int spot = 0; spot < bytes; spot++) {
                rows *= kindsAt[spot];
                chosen[spot] = 0;
            }
            sums[0] = layout.sumOfHead(track, number);
            int changed = 0;
            int fitting = 0;
            for (int row = 0; row < rows; row++) {
                for (int spot = changed; spot < bytes; spot++) {
                    sums[spot + 1] = layout.sumWith(sums[spot], kinds[spot][chosen[spot]]);
                }
                if (hasSum(bytes, sums[bytes])) {
                    fitting++;
                    if (fitting > 1) {
                        return false;
                    }
                    keepRow(bytes);
                }
                changed = chooseAnother(bytes);
            }
            return fitting == 1;
        }

        /** The unlike bytes of each spot; false if they make too many rows. */
        private boolean gatherKinds(int bytes) {
            int rows = 1;
            for (int spot = 0; spot < bytes + 2; spot++) {
                kindsAt[spot] = 0;
                for (int c = 0; c < size; c++) {
                    int kind = copies[c].byteOrSum(spot, bytes);
                    if (!hasKind(spot, kind)) {
                        kinds[spot][kindsAt[spot]] = kind;
                        kindsAt[spot]++;
                    }
                }
                rows *= kindsAt[spot];
                if (rows > MENDING_LIMIT) {
                    return false;
                }
            }
            return true;
        }

        private boolean hasKind(int spot, int kind) {
            for (int i = 0; i < kindsAt[spot]; i++) {
                if (kinds[spot][i] == kind) {
                    return true;
                }
            }
            return false;
        }

        private boolean hasSum(int bytes, int sum) {
            return hasKind(bytes, sum >> 8) && hasKind(bytes + 1, sum & BYTE_TOP);
        }

        private void keepRow(int bytes) {
            for (int spot = 0; spot < bytes; spot++) {
                data[spot] = kinds[spot][chosen[spot]];
            }
        }

        /** Chooses the next row of data: the first spot that is another one then. */
        private int chooseAnother(int bytes) {
            for (int spot = bytes - 1; spot >= 0; spot--) {
                chosen[spot]++;
                if (chosen[spot] < kindsAt[spot]) {
                    return spot;
                }
                chosen[spot] = 0;
            }
            return 0;
        }
    }

    /** The CATALOGUES and FILES; JOINED is kept until one of them changes. */
    private static final class Disk {
        int files;
        int walked;
        final int[] path = new int[CLUSTERS];
        private final int[] first = new int[CLUSTERS];
        private final int[] second = new int[CLUSTERS];
        private final int[] joined = new int[CLUSTERS];
        private final int[] unlike = new int[UNLIKE_LIMIT];
        private int unlikeOnes;
        private boolean joinTried;
        private boolean joinStands;
        private final int[] heads = new int[FILE_LIMIT];
        private final int[] lengths = new int[FILE_LIMIT];

        Disk() {
            Arrays.fill(first, FREE);
            Arrays.fill(second, FREE);
        }

        void write(int catalogue, int cluster, int told) {
            if (!isCluster(cluster)) {
                return;
            }
            if (catalogue == 0) {
                first[cluster] = told;
            } else {
                second[cluster] = told;
            }
            joinTried = false;
        }

        void add(int head, int length) {
            if (files >= FILE_LIMIT) {
                return;
            }
            heads[files] = head;
            lengths[files] = length;
            files++;
            joinTried = false;
        }

        boolean holds(int file) {
            return file >= 0 && file < files;
        }

        /** What a CATALOGUE tells; null if there is none such, or it can't be JOINED. */
        int[] rowOf(int catalogue) {
            if (catalogue == 0) {
                return first;
            }
            if (catalogue == 1) {
                return second;
            }
            if (catalogue != JOINED) {
                return null;
            }
            if (!joinTried) {
                joinTried = true;
                joinStands = findUnlike();
                if (joinStands) {
                    join();
                }
            }
            return joinStands ? joined : null;
        }

        /** The CHAIN of a FILE comes to the path. */
        void walk(int[] row, int file) {
            walked = 0;
            if (!holds(file)) {
                return;
            }
            int seen = 0;
            int at = heads[file];
            while (walked < CLUSTERS && isCluster(at) && (seen >> at & 1) == 0) {
                seen |= 1 << at;
                path[walked] = at;
                walked++;
                at = row[at];
            }
        }

        /** MISHAPS by a row: a CLUSTER counts once for each CHAIN that has it behind the first one. */
        int faultsBy(int[] row) {
            int all = 0;
            int covered = 0;
            for (int f = 0; f < files; f++) {
                int seen = 0;
                int length = 0;
                int at = heads[f];
                while (length < CLUSTERS && isCluster(at) && (seen >> at & 1) == 0) {
                    seen |= 1 << at;
                    length++;
                    at = row[at];
                }
                all += length == lengths[f] ? 0 : 1;
                all += at == LAST ? 0 : 1;
                all += Integer.bitCount(covered & seen);
                covered |= seen;
            }
            return all + lostOnes(row, covered);
        }

        /** Bits of the CLUSTERS that are in some FILE by JOINED; all of them if it can't be JOINED. */
        int inFiles() {
            int[] row = rowOf(JOINED);
            if (row == null) {
                return (1 << CLUSTERS) - 1;
            }
            int all = 0;
            for (int f = 0; f < files; f++) {
                walk(row, f);
                for (int i = 0; i < walked; i++) {
                    all |= 1 << path[i];
                }
            }
            return all;
        }

        private static int lostOnes(int[] row, int covered) {
            int all = 0;
            for (int c = 0; c < CLUSTERS; c++) {
                if ((covered >> c & 1) == 0 && row[c] != FREE && row[c] != BAD) {
                    all++;
                }
            }
            return all;
        }

        private boolean findUnlike() {
            unlikeOnes = 0;
            for (int c = 0; c < CLUSTERS; c++) {
                if (first[c] != second[c]) {
                    if (unlikeOnes >= UNLIKE_LIMIT) {
                        return false;
                    }
                    unlike[unlikeOnes] = c;
                    unlikeOnes++;
                }
            }
            return true;
        }

        /** Bit i of a choice is on if the i-th unlike CLUSTER is taken from the second. */
        private void join() {
            System.arraycopy(first, 0, joined, 0, CLUSTERS);
            int best = 0;
            int fewest = faultsBy(joined);
            for (int choice = 1; choice < 1 << unlikeOnes; choice++) {
                choose(choice, choice ^ choice - 1);
                int faults = faultsBy(joined);
                boolean fewerOfSecond = Integer.bitCount(choice) < Integer.bitCount(best);
                if (faults < fewest || faults == fewest && fewerOfSecond) {
                    best = choice;
                    fewest = faults;
                }
            }
            choose(best, -1);
        }

        /** Only the lowest bits change from one choice to the next: the others are let be. */
        private void choose(int choice, int changed) {
            for (int i = 0; i < unlikeOnes && changed >> i != 0; i++) {
                int c = unlike[i];
                joined[c] = (choice >> i & 1) != 0 ? second[c] : first[c];
            }
        }
    }

    /** Writes a SECTOR anew. */
    private static final class Scribe {
        private static final int LEAD = 8;
        private static final int BITS_LIMIT =
            2 * LEAD + MARK_BITS + (BYTES_BESIDE_DATA + DATA_LIMIT) * BITS_A_BYTE + 1;

        final int[] steps = new int[BITS_LIMIT];
        int size;
        private int cell;
        private int since;
        private int ahead;
        private boolean fits;

        /** False if a STEP would be too great. */
        boolean write(Layout layout, int track, int number, int[] data) {
            size = 0;
            since = NONE;
            cell = layout.cell;
            fits = true;
            for (int i = 0; i < LEAD; i++) {
                pushBit(1);
                pushBit(0);
            }
            for (int i = MARK_BITS - 1; i >= 0; i--) {
                pushBit(layout.mark >> i & 1);
            }
            ahead = layout.mark & 1;
            pushByte(layout.firstByte(track, number));
            pushByte(layout.secondByte(track, number));
            for (int i = 0; i < layout.size && i < data.length; i++) {
                pushByte(data[i]);
            }
            int sum = layout.sumOf(track, number, data);
            pushByte(sum >> 8);
            pushByte(sum & BYTE_TOP);
            pushBit(1);
            return fits;
        }

        private void pushByte(int value) {
            for (int i = 7; i >= 0; i--) {
                int bit = value >> i & 1;
                pushBit(clockDue(ahead, bit));
                pushBit(bit);
                ahead = bit;
            }
        }

        /** The bits since the last 1 are NONE ahead of the first one, which ends no STEP. */
        private void pushBit(int bit) {
            if (since != NONE) {
                since++;
            }
            if (bit == 0) {
                return;
            }
            if (since != NONE && size < BITS_LIMIT) {
                fits = fits && cell * since <= STEP_TOP;
                steps[size] = cell * since;
                size++;
            }
            since = 0;
        }
    }
}
