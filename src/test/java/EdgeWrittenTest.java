/** Terms, part 5, WRITTEN, and promise 22: each sentence that names a bound, at the last value taken and the first not. */
public final class EdgeWrittenTest {
    private static final String LEAD = "1010101010101010";
    private static final Check CHECK = new Check("EdgeWrittenTest");

    public static void main(String[] args) {
        byStatus();
        bitsInOrder();
        rightSumAndClocks();
        stepsFromTheFirstOne();
        notAbove255();
        answers();
        CHECK.close();
    }

    private static ClickingDisk disk(int cell, int mark, int n, String more) {
        return Signals.disk("cell " + cell + ";mark " + (mark >> 8) + " " + (mark & 255) + ";data " + n + ";" + more);
    }

    /** The steps of a sector that is written are those of the bits: each from one 1 to the next. */
    private static void due(ClickingDisk disk, int track, int number, String bits, int cell) {
        int[] steps = Signals.steps(bits.substring(1), cell);
        CHECK.due("how many", disk.written(track, number, -1), steps.length);
        for (int k = 0; k < steps.length; k++) {
            CHECK.due("step " + k, disk.written(track, number, k), steps[k]);
        }
        CHECK.due("behind", disk.written(track, number, steps.length), -1);
        CHECK.due("ahead", disk.written(track, number, -2), -1);
    }

    private static void byStatus() {
        CHECK.says("WRITTEN anew is a SECTOR that is RIGHT or MENDED:");
        int[][][] rows = {{}, {{3, 4, 9, 0, 16}}, {{3, 4, 9, 0, 16}, {3, 4, 8, 0, 15}}, {{3, 4, 9, 0, 15}, {3, 4, 7, 0, 16}},
            {{3, 4, 9, 0, 15}}};
        for (int status = 0; status < 5; status++) {
            ClickingDisk disk = disk(16, 0x448a, 1, "sum add;");
            for (int[] bytes : rows[status]) {
                Signals.read(disk, 0, 16, Signals.raw(0x448a, bytes));
            }
            CHECK.due("the status", disk.status(3, 4, 0), status);
            if (status == 1 || status == 3) {
                due(disk, 3, 4, LEAD + Signals.raw(0x448a, 3, 4, 9, 0, 16) + "1", 16);
            } else {
                CHECK.due("how many by " + status, disk.written(3, 4, -1), -1);
                CHECK.due("the first by " + status, disk.written(3, 4, 0), -1);
            }
        }
    }

    /** From the fewest bytes to the most, and from all 0 (a clock at each bit) to all 255. */
    private static void bitsInOrder() {
        CHECK.says("RAW bits: eight times 1 0, the MARK, its bytes");
        for (int n = 1; n <= 8; n++) {
            for (int value = 0; value <= 255; value += 85) {
                for (int swap = 0; swap < 2; swap++) {
                    ClickingDisk disk = disk(10, 0x448a, n, swap == 1 ? "swap;sum xor;" : "sum xor;");
                    int[] bytes = new int[4 + n];
                    java.util.Arrays.fill(bytes, value);
                    bytes[0] = 0;
                    bytes[1] = 255;
                    bytes[2 + n] = 0;
                    bytes[3 + n] = n % 2 == 0 ? 255 : 255 ^ value;
                    Signals.read(disk, 0, 10, Signals.raw(0x448a, bytes));
                    due(disk, swap == 1 ? 255 : 0, swap == 1 ? 0 : 255, LEAD + Signals.raw(0x448a, bytes) + "1", 10);
                }
            }
        }
    }

    private static void rightSumAndClocks() {
        CHECK.says("(with its right SUM and CLOCKS as they should be),");
        int sum = Signals.crc(4129, 65535, 3, 4, 10, 20);
        ClickingDisk mended = disk(16, 0x448a, 2, "sum crc 4129 65535;");
        Signals.read(mended, 0, 16, Signals.raw(0x448a, 3, 4, 10, 21, sum >> 8 ^ 1, sum & 255));
        Signals.read(mended, 0, 16, Signals.raw(0x448a, 3, 4, 11, 20, sum >> 8, sum & 255 ^ 1));
        CHECK.due("mended", mended.status(3, 4, 0), 3);
        due(mended, 3, 4, LEAD + Signals.raw(0x448a, 3, 4, 10, 20, sum >> 8, sum & 255) + "1", 16);
        for (int mark : new int[] {0x448a, 0x4489}) {
            for (int track = 0; track <= 128; track += 128) {
                ClickingDisk disk = disk(16, mark, 1, "sum xor;");
                String good = Signals.raw(mark, track, 85, 85, 0, track);
                Signals.read(disk, 0, 16, Signals.flip(good, 16, 20));
                CHECK.due("slips", disk.found(0, 0, 5), 2);
                due(disk, track, 85, LEAD + good + "1", 16);
            }
        }
    }

    private static void stepsFromTheFirstOne() {
        CHECK.says("and a 1 at the end; STEPS are P times how many RAW bits go from one 1 (not counted) to the next (counted), from the first 1 on;");
        for (int cell : new int[] {8, 9, 59, 60}) {
            ClickingDisk disk = disk(cell, 0x5555, 1, "sum xor;");
            Signals.read(disk, 0, cell, Signals.raw(0x5555, 255, 255, 1, 0, 1));
            CHECK.due("seven of two cells ahead of the mark", disk.written(255, 255, 0), 2 * cell);
            CHECK.due("the seventh", disk.written(255, 255, 6), 2 * cell);
            CHECK.due("three to the mark's first 1", disk.written(255, 255, 7), 3 * cell);
            int last = disk.written(255, 255, -1) - 1;
            CHECK.due("the 1 at the end, right behind a 1", disk.written(255, 255, last), cell);
            Signals.read(disk, 0, cell, Signals.raw(0x5555, 255, 254, 1, 0, 0));
            last = disk.written(255, 254, -1) - 1;
            CHECK.due("the 1 at the end, behind a clock and a bit 0", disk.written(255, 254, last), 2 * cell);
        }
    }

    /**
     * The greatest distance in the mark is 5 of 0x8422, 8 of 0x8082 and, with the lead's 0 ahead, 9 of 0x0122:
     * 5 * 51 is 255, 5 * 52 is 260; 8 * 31 is 248, 8 * 32 is 256; 9 * 28 is 252, 9 * 29 is 261.
     */
    private static void notAbove255() {
        CHECK.says("none at all, if one would be above 255.");
        int[][] rows = {{0x8422, 5, 51}, {0x8082, 8, 31}, {0x0122, 9, 28}};
        for (int[] row : rows) {
            int mark = row[0];
            for (int cell = row[2] - 1; cell <= row[2] + 2; cell++) {
                ClickingDisk disk = disk(cell, mark, 1, "sum add;");
                Signals.read(disk, 0, cell, "1" + Signals.raw(mark, 3, 4, 5, 0, 12));
                CHECK.due("right by " + cell, disk.status(3, 4, 0), 1);
                String bits = LEAD + Signals.raw(mark, 3, 4, 5, 0, 12) + "1";
                if (cell <= row[2]) {
                    due(disk, 3, 4, bits, cell);
                    CHECK.due("its greatest by " + cell, greatest(disk), row[1] * cell);
                } else {
                    for (int k = -2; k < 60; k++) {
                        CHECK.due("none by " + cell, disk.written(3, 4, k), -1);
                    }
                }
            }
        }
    }

    private static int greatest(ClickingDisk disk) {
        int most = 0;
        int size = disk.written(3, 4, -1);
        for (int k = 0; k < size; k++) {
            most = Math.max(most, disk.written(3, 4, k));
        }
        return most;
    }

    private static void answers() {
        CHECK.says("A SECTOR WRITTEN anew: how many STEPS (k NONE), or the k-th; NONE if it isn't RIGHT or MENDED, it can't be, or there is none such.");
        CHECK.due("without a format", new ClickingDisk().written(0, 0, -1), -1);
        int[][] corners = {{0, 0}, {0, 255}, {255, 0}, {255, 255}};
        for (int[] c : corners) {
            ClickingDisk disk = disk(16, 0x448a, 1, "sum xor;");
            CHECK.due("nothing there", disk.written(c[0], c[1], -1), -1);
            Signals.read(disk, 0, 16, Signals.raw(0x448a, c[0], c[1], 1, 0, c[0] ^ c[1] ^ 1));
            String bits = LEAD + Signals.raw(0x448a, c[0], c[1], 1, 0, c[0] ^ c[1] ^ 1) + "1";
            due(disk, c[0], c[1], bits, 16);
            for (int off : new int[] {-1, 256, Integer.MIN_VALUE, Integer.MAX_VALUE}) {
                CHECK.due("track " + off, disk.written(off, c[1], -1), -1);
                CHECK.due("sector " + off, disk.written(c[0], off, -1), -1);
                CHECK.due("the first of track " + off, disk.written(off, c[1], 0), -1);
            }
            CHECK.due("k far below", disk.written(c[0], c[1], Integer.MIN_VALUE), -1);
            CHECK.due("k far above", disk.written(c[0], c[1], Integer.MAX_VALUE), -1);
            CHECK.due("another number", disk.written(c[0], c[1] ^ 1, -1), -1);
        }
    }
}
