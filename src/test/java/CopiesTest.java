/** Promises 12, 13 and 22: status, value, written. */
public final class CopiesTest {
    private static final int MARK = 0x448a;
    private static final Check CHECK = new Check("CopiesTest");

    public static void main(String[] args) {
        rightAndStrife();
        mended();
        notMended();
        oneAfterAnother();
        mendingLimit();
        votes();
        wrongArguments();
        written();
        writtenMended();
        tooGreatSteps();
        CHECK.close();
    }

    private static ClickingDisk disk(int data, String more) {
        return Signals.disk("cell 16;mark 68 138;data " + data + ";" + more);
    }

    private static void put(ClickingDisk disk, int... bytes) {
        Signals.read(disk, 0, 16, Signals.raw(MARK, bytes));
    }

    private static void state(ClickingDisk disk, String when, int status, int copies, int right) {
        CHECK.due(when + ": status", disk.status(3, 4, 0), status);
        CHECK.due(when + ": copies", disk.status(3, 4, 1), copies);
        CHECK.due(when + ": right ones", disk.status(3, 4, 2), right);
    }

    private static void rightAndStrife() {
        ClickingDisk disk = disk(2, "sum add;");
        state(disk, "none", 0, 0, 0);
        CHECK.due("no byte of none", disk.value(3, 4, 0), -1);
        put(disk, 3, 4, 10, 20, 0, 37);
        state(disk, "one", 1, 1, 1);
        CHECK.due("byte 0", disk.value(3, 4, 0), 266);
        CHECK.due("byte 1", disk.value(3, 4, 1), 276);
        put(disk, 3, 4, 99, 99, 0, 0);
        put(disk, 3, 4, 99, 99, 0, 0);
        state(disk, "wrong ones do not count", 1, 3, 1);
        CHECK.due("byte 0 of the right one", disk.value(3, 4, 0), 266);
        put(disk, 3, 4, 10, 20, 0, 37);
        state(disk, "two of the same", 1, 4, 2);
        put(disk, 4, 3, 1, 1, 0, 9);
        state(disk, "another sector", 1, 4, 2);
        CHECK.due("the other one", disk.status(4, 3, 0), 1);
        put(disk, 3, 4, 11, 19, 0, 37);
        state(disk, "strife", 2, 5, 3);
        CHECK.due("byte 0 by votes, 10 10 11 99 99", disk.value(3, 4, 0), 10);
        CHECK.due("byte 1 by votes, 19 20 20 99 99", disk.value(3, 4, 1), 20);
        put(disk, 3, 4, 99, 99, 0, 0);
        CHECK.due("99 three times of six is not sure", disk.value(3, 4, 0), 99);
        put(disk, 3, 4, 99, 99, 0, 0);
        CHECK.due("99 four times of seven is sure", disk.value(3, 4, 0), 99 + 256);
    }

    private static void mended() {
        ClickingDisk disk = disk(2, "sum crc 4129 65535;");
        int sum = Signals.crc(4129, 65535, 3, 4, 10, 20);
        put(disk, 3, 4, 11, 20, sum >> 8, sum & 255);
        state(disk, "one wrong", 4, 1, 0);
        CHECK.due("a lone byte is sure", disk.value(3, 4, 0), 11 + 256);
        put(disk, 3, 4, 10, 21, sum >> 8, (sum & 255) ^ 1);
        state(disk, "mended of two", 3, 2, 0);
        CHECK.due("byte 0", disk.value(3, 4, 0), 266);
        CHECK.due("byte 1", disk.value(3, 4, 1), 276);
        put(disk, 3, 4, 11, 20, sum >> 8, sum & 255);
        state(disk, "rows alike count once", 3, 3, 0);
        CHECK.due("votes do not count", disk.value(3, 4, 0), 266);
        ClickingDisk swapped = disk(2, "sum crc 4129 65535;swap;");
        sum = Signals.crc(4129, 65535, 4, 3, 10, 20);
        put(swapped, 4, 3, 11, 20, sum >> 8, sum & 255);
        put(swapped, 4, 3, 10, 21, sum >> 8, sum & 255);
        state(swapped, "mended with swap", 3, 2, 0);
        CHECK.due("byte 0 with swap", swapped.value(3, 4, 0), 266);
    }

    private static void notMended() {
        ClickingDisk disk = disk(2, "sum add;");
        put(disk, 3, 4, 10, 20, 0, 38);
        put(disk, 3, 4, 11, 21, 0, 38);
        state(disk, "two rows fit: 10 21, 11 20", 4, 2, 0);
        CHECK.due("of like ones the least", disk.value(3, 4, 0), 10);
        CHECK.due("of like ones the least behind it", disk.value(3, 4, 1), 20);
        ClickingDisk sums = disk(1, "sum add;");
        put(sums, 3, 4, 1, 0, 9);
        put(sums, 3, 4, 2, 0, 8);
        state(sums, "two rows fit with sums of their own: 1 8, 2 9", 4, 2, 0);
        ClickingDisk none = disk(1, "sum add;");
        put(none, 3, 4, 1, 0, 20);
        put(none, 3, 4, 2, 0, 21);
        state(none, "no row fits", 4, 2, 0);
        ClickingDisk high = disk(1, "sum add;");
        put(high, 3, 4, 1, 1, 8);
        put(high, 3, 4, 1, 0, 9);
        state(high, "the sum's bytes come from two copies", 3, 2, 0);
        CHECK.due("byte 0 of these", high.value(3, 4, 0), 257);
    }

    /** What was looked at for one sector leaves nothing behind for the next. */
    private static void oneAfterAnother() {
        ClickingDisk disk = disk(2, "sum add;");
        put(disk, 1, 1, 20, 11, 0, 32);
        put(disk, 1, 1, 21, 10, 0, 34);
        put(disk, 1, 1, 22, 10, 0, 33);
        put(disk, 3, 4, 10, 20, 0, 40);
        put(disk, 3, 4, 10, 20, 0, 37);
        put(disk, 2, 2, 10, 20, 0, 40);
        put(disk, 2, 2, 10, 21, 0, 40);
        put(disk, 2, 2, 10, 20, 0, 35);
        for (int i = 0; i < 2; i++) {
            CHECK.due("more rows than one", disk.status(1, 1, 0), 4);
            CHECK.due("a right one", disk.status(3, 4, 0), 1);
            CHECK.due("more rows than one again", disk.status(1, 1, 0), 4);
            CHECK.due("just one row", disk.status(2, 2, 0), 3);
            CHECK.due("its byte", disk.value(2, 2, 1), 256 + 21);
            CHECK.due("one of none", disk.value(1, 1, 0), 20);
        }
    }

    /** Eight spots of data with three kinds are 6561 rows; six of four kinds are 4096, and with two kinds of sum more. */
    private static void mendingLimit() {
        ClickingDisk disk = disk(6, "sum add;");
        for (int i = 0; i < 4; i++) {
            put(disk, 3, 4, i, 4 * i, 16 * i, 64 * i, 0, 0, 2, 0);
        }
        state(disk, "256 rows, none fits", 4, 4, 0);
        ClickingDisk full = disk(6, "sum crc 4129 0;");
        int sum = Signals.crc(4129, 0, 3, 4, 1, 2, 3, 1, 2, 3);
        put(full, 3, 4, 1, 2, 3, 1, 2, 0, sum >> 8, sum & 255);
        put(full, 3, 4, 2, 3, 0, 2, 3, 3, sum >> 8, sum & 255);
        put(full, 3, 4, 3, 0, 1, 3, 0, 1, sum >> 8, sum & 255);
        put(full, 3, 4, 0, 1, 2, 0, 1, 2, sum >> 8, sum & 255);
        state(full, "4096 rows are looked at", 3, 4, 0);
        int[] due = {1, 2, 3, 1, 2, 3};
        for (int i = 0; i < 6; i++) {
            CHECK.due("mended byte " + i, full.value(3, 4, i), 256 + due[i]);
        }
        put(full, 3, 4, 0, 1, 2, 0, 1, 2, sum >> 8, sum & 255);
        state(full, "a like copy more", 3, 5, 0);
        put(full, 3, 4, 0, 1, 2, 0, 1, 2, sum >> 8 ^ 128, sum & 255);
        state(full, "8192 rows are not looked at", 4, 6, 0);
        CHECK.due("and are voted on", full.value(3, 4, 0), 0);
        ClickingDisk wide = Signals.disk("cell 8;mark 68 138;data 8;sum crc 4129 0;");
        for (int i = 0; i < 10; i++) {
            Signals.read(wide, 0, 8, Signals.raw(MARK, 3, 4, i, i, i, i, i, i, i, i, i, i));
        }
        CHECK.due("ten kinds at ten spots", wide.status(3, 4, 0), 4);
        CHECK.due("the least of ten", wide.value(3, 4, 7), 0);
    }

    private static void votes() {
        ClickingDisk disk = disk(1, "sum xor;");
        int[] values = {9, 200, 200, 9, 9};
        int[] due = {9 + 256, 9, 200 + 256, 9, 9 + 256};
        for (int i = 0; i < values.length; i++) {
            put(disk, 3, 4, values[i], 77, 77);
            CHECK.due("after vote " + i, disk.value(3, 4, 0), due[i]);
        }
        state(disk, "open", 4, 5, 0);
    }

    private static void wrongArguments() {
        ClickingDisk disk = disk(2, "sum add;");
        put(disk, 255, 255, 1, 2, 2, 1);
        CHECK.due("the highest numbers", disk.status(255, 255, 0), 1);
        int[][] off = {{-1, 0}, {0, -1}, {256, 0}, {0, 256}, {Integer.MIN_VALUE, 0}, {0, Integer.MAX_VALUE}};
        for (int[] row : off) {
            CHECK.due("status of " + row[0] + " " + row[1], disk.status(row[0], row[1], 0), -1);
            CHECK.due("copies of " + row[0] + " " + row[1], disk.status(row[0], row[1], 1), -1);
            CHECK.due("value of " + row[0] + " " + row[1], disk.value(row[0], row[1], 0), -1);
            CHECK.due("written of " + row[0] + " " + row[1], disk.written(row[0], row[1], -1), -1);
        }
        for (int what : new int[] {-1, 3, Integer.MIN_VALUE, Integer.MAX_VALUE}) {
            CHECK.due("status " + what, disk.status(255, 255, what), -1);
        }
        for (int i : new int[] {-1, 2, 8, Integer.MIN_VALUE, Integer.MAX_VALUE}) {
            CHECK.due("value " + i, disk.value(255, 255, i), -1);
        }
        CHECK.due("no copy", disk.value(0, 0, 0), -1);
    }

    private static void steps(ClickingDisk disk, String bits, int cell) {
        int[] due = Signals.steps(bits.substring(1), cell);
        CHECK.due("how many", disk.written(3, 4, -1), due.length);
        for (int k = 0; k < due.length; k++) {
            CHECK.due("step " + k, disk.written(3, 4, k), due[k]);
        }
        CHECK.due("none behind", disk.written(3, 4, due.length), -1);
        CHECK.due("none ahead", disk.written(3, 4, -2), -1);
        CHECK.due("none far away", disk.written(3, 4, Integer.MAX_VALUE), -1);
    }

    private static void written() {
        String lead = "1010101010101010";
        ClickingDisk disk = disk(2, "sum add;");
        CHECK.due("nothing there", disk.written(3, 4, -1), -1);
        put(disk, 3, 4, 10, 20, 0, 36);
        CHECK.due("open", disk.written(3, 4, -1), -1);
        put(disk, 3, 4, 10, 20, 0, 37);
        steps(disk, lead + Signals.raw(MARK, 3, 4, 10, 20, 0, 37) + "1", 16);
        put(disk, 3, 4, 11, 19, 0, 37);
        CHECK.due("strife", disk.written(3, 4, -1), -1);
        ClickingDisk swapped = disk(1, "sum crc 4129 7;swap;");
        int sum = Signals.crc(4129, 7, 4, 3, 129);
        put(swapped, 4, 3, 129, sum >> 8, sum & 255);
        steps(swapped, lead + Signals.raw(MARK, 4, 3, 129, sum >> 8, sum & 255) + "1", 16);
        // slips are not written, and the first clock goes by the lowest bit of B
        ClickingDisk odd = Signals.disk("cell 16;mark 68 137;data 1;sum add;");
        StringBuilder bits = new StringBuilder(Signals.raw(0x4489, 3, 4, 0, 0, 7));
        bits.setCharAt(50, bits.charAt(50) == '0' ? '1' : '0');
        Signals.read(odd, 0, 16, bits.toString());
        CHECK.due("a slip", odd.found(0, 0, 5), 1);
        steps(odd, lead + Signals.raw(0x4489, 3, 4, 0, 0, 7) + "1", 16);
        ClickingDisk back = Signals.disk("cell 16;mark 68 137;data 1;sum add;");
        int size = odd.written(3, 4, -1);
        int[] anew = new int[size];
        for (int k = 0; k < size; k++) {
            anew[k] = odd.written(3, 4, k);
        }
        Signals.tape(back, anew);
        back.read(0);
        CHECK.due("what is written can be read", back.status(3, 4, 0), 1);
    }

    private static void writtenMended() {
        ClickingDisk disk = disk(2, "sum crc 4129 65535;");
        int sum = Signals.crc(4129, 65535, 3, 4, 10, 20);
        put(disk, 3, 4, 11, 20, sum >> 8, sum & 255);
        put(disk, 3, 4, 10, 21, sum >> 8, (sum & 255) ^ 1);
        steps(disk, "1010101010101010" + Signals.raw(MARK, 3, 4, 10, 20, sum >> 8, sum & 255) + "1", 16);
    }

    /** The mark has five bits from 1 to 1: 51 times that is 255, 52 times 260. */
    private static void tooGreatSteps() {
        int mark = 0x8422;
        for (int cell = 50; cell <= 53; cell++) {
            ClickingDisk disk = Signals.disk("cell " + cell + ";mark 132 34;data 1;sum add;");
            Signals.read(disk, 0, cell, Signals.raw(mark, 3, 4, 5, 0, 12));
            CHECK.due("it is right by " + cell, disk.status(3, 4, 0), 1);
            if (cell <= 51) {
                steps(disk, "1010101010101010" + Signals.raw(mark, 3, 4, 5, 0, 12) + "1", cell);
            } else {
                CHECK.due("no steps by " + cell, disk.written(3, 4, -1), -1);
                CHECK.due("no first step by " + cell, disk.written(3, 4, 0), -1);
            }
        }
        // eight cells of 32 are 256; they are read by a step of 255
        ClickingDisk disk = Signals.disk("cell 32;mark 128 130;data 1;sum add;");
        Signals.read(disk, 0, 32, "1" + Signals.raw(0x8082, 3, 4, 5, 0, 12));
        CHECK.due("256 is read as 255", disk.status(3, 4, 0), 1);
        CHECK.due("and not written", disk.written(3, 4, -1), -1);
    }
}
