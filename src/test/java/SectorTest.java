/** Promises 10 and 11: found, tuned. */
public final class SectorTest {
    private static final int MARK = 0x448a;
    private static final String HEAD = "cell 16;mark 68 138;";
    private static final Check CHECK = new Check("SectorTest");

    public static void main(String[] args) {
        parts();
        wrongArguments();
        sums();
        slips();
        places();
        atMostEight();
        bySpeed();
        tunedOrder();
        CHECK.close();
    }

    private static void sector(ClickingDisk disk, int read, int k, int... due) {
        for (int what = 0; what < due.length; what++) {
            int asked = what < 6 ? what : what + 4;
            CHECK.due("found " + read + " " + k + " " + asked, disk.found(read, k, asked), due[what]);
        }
    }

    private static void parts() {
        ClickingDisk disk = Signals.disk(HEAD + "data 3;sum add;");
        Signals.read(disk, 0, 16, "101" + Signals.raw(MARK, 200, 3, 255, 0, 7, 1, 209));
        CHECK.due("one", disk.found(0, -1, 0), 1);
        sector(disk, 0, 0, 19, 200, 3, 465, 465, 0, 255, 0, 7, -1);
        disk = Signals.disk(HEAD + "swap;data 3;sum add;");
        Signals.read(disk, 0, 16, Signals.raw(MARK, 200, 3, 255, 0, 7, 1, 208));
        sector(disk, 0, 0, 16, 3, 200, 464, 465, 0, 255, 0, 7, -1);
    }

    private static void wrongArguments() {
        ClickingDisk disk = Signals.disk(HEAD + "data 8;sum xor;");
        Signals.read(disk, 0, 16, Signals.raw(MARK, 1, 2, 3, 4, 5, 6, 7, 8, 9, 10, 0, 11));
        for (int what : new int[] {-1, 6, 7, 8, 9, 18, 19, 100, Integer.MIN_VALUE, Integer.MAX_VALUE}) {
            CHECK.due("what " + what, disk.found(0, 0, what), -1);
        }
        CHECK.due("the last byte", disk.found(0, 0, 17), 10);
        for (int read : new int[] {-1, 1, 9, 10, Integer.MIN_VALUE, Integer.MAX_VALUE}) {
            CHECK.due("read " + read, disk.found(read, -1, 0), -1);
            CHECK.due("sector of read " + read, disk.found(read, 0, 0), -1);
            CHECK.due("tuned of read " + read, disk.tuned(read, 0), -1);
        }
        for (int k : new int[] {-2, 1, 8, Integer.MIN_VALUE, Integer.MAX_VALUE}) {
            CHECK.due("sector " + k, disk.found(0, k, 0), -1);
        }
        for (int what : new int[] {-1, 4, Integer.MIN_VALUE, Integer.MAX_VALUE}) {
            CHECK.due("tuned " + what, disk.tuned(0, what), -1);
        }
    }

    private static void sums() {
        int[] bytes = {5, 200, 255, 255, 129, 64};
        String[] kinds = {"sum add;", "sum xor;", "sum crc 4129 65535;", "sum crc 0 4660;", "sum crc 65535 0;", "sum crc 32773 0;"};
        int[] due = {5 + 200 + 255 + 255 + 129 + 64, 5 ^ 200 ^ 129 ^ 64, Signals.crc(4129, 65535, bytes),
            Signals.crc(0, 4660, bytes), Signals.crc(65535, 0, bytes), Signals.crc(32773, 0, bytes)};
        for (int i = 0; i < kinds.length; i++) {
            ClickingDisk disk = Signals.disk(HEAD + "data 4;" + kinds[i]);
            Signals.read(disk, 0, 16, Signals.raw(MARK, 5, 200, 255, 255, 129, 64, due[i] >> 8, due[i] & 255));
            CHECK.due("as read by " + kinds[i], disk.found(0, 0, 3), due[i]);
            CHECK.due("as due by " + kinds[i], disk.found(0, 0, 4), due[i]);
        }
        // the check value of CRC-16/IBM-3740 for "123456789", of which the first two are the track and the sector number
        ClickingDisk disk = Signals.disk(HEAD + "data 7;sum crc 4129 65535;");
        Signals.read(disk, 0, 16, Signals.raw(MARK, '1', '2', '3', '4', '5', '6', '7', '8', '9', 0, 0));
        CHECK.due("a known crc", disk.found(0, 0, 4), 0x29b1);
        // with swap the bytes keep the order in which they stand
        disk = Signals.disk(HEAD + "data 7;sum crc 4129 65535;swap;");
        Signals.read(disk, 0, 16, Signals.raw(MARK, '1', '2', '3', '4', '5', '6', '7', '8', '9', 0, 0));
        CHECK.due("a known crc with swap", disk.found(0, 0, 4), 0x29b1);
        CHECK.due("the track with swap", disk.found(0, 0, 1), '2');
    }

    private static void slips() {
        ClickingDisk disk = Signals.disk(HEAD + "data 1;sum add;");
        String good = Signals.raw(MARK, 0, 1, 2, 0, 3);
        Signals.read(disk, 0, 16, good);
        Signals.read(disk, 0, 16, Signals.flip(good, 18));
        Signals.read(disk, 0, 16, Signals.flip(good, 16, 18, 94));
        Signals.read(disk, 0, 16, Signals.flip(good, 17));
        int[] due = {0, 1, 3, 2};
        for (int read = 0; read < due.length; read++) {
            CHECK.due("slips of read " + read, disk.found(read, 0, 5), due[read]);
        }
        // the lowest bit of B is 1: the first clock is 0 by a bit 0
        disk = Signals.disk("cell 16;mark 68 137;data 1;sum add;");
        good = Signals.raw(0x4489, 0, 1, 2, 0, 3);
        CHECK.due("the first clock is 0", good.charAt(16), '0');
        Signals.read(disk, 0, 16, good);
        Signals.read(disk, 0, 16, Signals.flip(good, 16));
        CHECK.due("none behind a mark with 1", disk.found(0, 0, 5), 0);
        CHECK.due("one behind a mark with 1", disk.found(1, 0, 5), 1);
    }

    private static void places() {
        ClickingDisk disk = Signals.disk(HEAD + "data 1;sum add;");
        String good = Signals.raw(MARK, 0, 1, 2, 0, 3);
        Signals.read(disk, 0, 16, good + good + "1" + Signals.raw(MARK, 1, 1, 1, 0, 4));
        CHECK.due("three", disk.found(0, -1, 0), 3);
        sector(disk, 0, 0, 16, 0, 1, 3, 3, 0, 2);
        sector(disk, 0, 1, 112, 0, 1, 3, 3, 0, 2);
        sector(disk, 0, 2, 209, 1, 1, 4, 3, 0, 1);
        // a tape that ends with the last bit is enough, one bit less is not
        String ones = Signals.raw(MARK, 0, 1, 254, 0, 255);
        CHECK.due("it ends with 1", ones.endsWith("1"), true);
        Signals.tape(disk, Signals.steps(ones, 16));
        disk.read(0);
        CHECK.due("just enough", disk.found(1, -1, 0), 1);
        Signals.tape(disk, Signals.steps(ones.substring(0, ones.length() - 2) + "1", 16));
        disk.read(0);
        CHECK.due("one bit less", disk.found(2, -1, 0), 0);
        // a mark inside of a sector is not looked at
        String inner = good.substring(0, 20) + Signals.bitsOf(MARK, 16) + good.substring(36);
        Signals.read(disk, 0, 16, inner + good);
        CHECK.due("inner marks do not count", disk.found(3, -1, 0), 2);
        CHECK.due("the second one", disk.found(3, 1, 0), 112);
        CHECK.due("no other k", disk.found(3, 2, 0), -1);
        overlappingMark();
    }

    /** Bits of 8-bit steps are 00000001 again and again: by "mark 1 1" sectors stand one behind the other, 96 bits each. */
    private static void overlappingMark() {
        ClickingDisk disk = Signals.disk("cell 8;mark 1 1;data 1;sum add;");
        Signals.tape(disk, 64, 64, 64, 64, 64, 64, 64, 64, 64, 64, 64, 64, 64, 64, 64, 64, 64, 64, 64, 64, 64, 64, 64);
        disk.read(0);
        CHECK.due("184 bits hold one", disk.found(0, -1, 0), 1);
        CHECK.due("its byte", disk.found(0, 0, 10), 0x11);
        int[] steps = new int[24];
        java.util.Arrays.fill(steps, 64);
        Signals.tape(disk, steps);
        disk.read(0);
        CHECK.due("192 bits hold two", disk.found(1, -1, 0), 2);
        CHECK.due("the second behind the first", disk.found(1, 1, 0), 112);
        // the last bit of a sector is not the first of a mark
        ClickingDisk high = Signals.disk("cell 16;mark 145 17;data 1;sum add;");
        String first = Signals.raw(0x9111, 0, 1, 2, 0, 3);
        CHECK.due("it ends with 1", first.endsWith("1"), true);
        Signals.read(high, 0, 16, first + Signals.raw(0x9111, 0, 2, 2, 0, 4).substring(1));
        CHECK.due("one alone", high.found(0, -1, 0), 1);
        Signals.read(high, 0, 16, first + Signals.raw(0x9111, 0, 2, 2, 0, 4));
        CHECK.due("two with all its bits", high.found(1, -1, 0), 2);
    }

    private static void atMostEight() {
        ClickingDisk disk = Signals.disk("cell 8;mark 1 1;data 1;sum add;");
        int[] steps = new int[320];
        java.util.Arrays.fill(steps, 64);
        Signals.tape(disk, steps);
        disk.read(2);
        CHECK.due("eight", disk.found(0, -1, 0), 8);
        CHECK.due("the eighth", disk.found(0, 7, 0), 16 + 7 * 96);
        CHECK.due("no ninth", disk.found(0, 8, 0), -1);
        CHECK.due("eight copies", disk.status(0x11, 0x11, 1), 8);
    }

    private static void bySpeed() {
        ClickingDisk slow = Signals.disk("cell 16;mark 68 138;data 2;sum add;");
        String bits = Signals.raw(MARK, 1, 2, 30, 40, 0, 73);
        int[] steps = Signals.steps(bits + "1", 20);
        Signals.tape(slow, steps);
        slow.read(0);
        CHECK.due("too slow for 16 without a gain", slow.found(0, -1, 0), 0);
        CHECK.due("tuned finds it", slow.tuned(0, 2), 1);
        CHECK.due("without slips", slow.tuned(0, 3), 0);
        CHECK.due("by the least cell that reads it", slow.tuned(0, 0), leastCell(slow, steps, bits));
        // the clock needs some steps ahead of the mark to follow
        steps = Signals.steps("1010101010101010" + bits + "1", 20);
        for (int gain = 0; gain <= 4; gain += 4) {
            ClickingDisk gained = Signals.disk("cell 17;mark 68 138;data 2;sum add;gain " + gain + ";");
            Signals.tape(gained, steps);
            gained.read(0);
            CHECK.due("sectors by gain " + gain, gained.found(0, -1, 0), gain == 0 ? 0 : 1);
            CHECK.due("right ones by gain " + gain, gained.status(1, 2, 2), gain == 0 ? 0 : 1);
        }
    }

    private static int leastCell(ClickingDisk disk, int[] steps, String bits) {
        Signals.tape(disk, steps);
        for (int cell = 10; cell <= 22; cell++) {
            for (int gain = 0; gain <= 8; gain++) {
                StringBuilder raw = new StringBuilder();
                int size = disk.raw(cell, gain, -1);
                for (int k = 0; k < size; k++) {
                    raw.append(disk.raw(cell, gain, k));
                }
                if (raw.toString().contains(bits)) {
                    disk.wipe();
                    return cell;
                }
            }
        }
        return -1;
    }

    private static void tunedOrder() {
        ClickingDisk low = Signals.disk("cell 10;mark 68 138;data 2;sum add;gain 3;");
        low.read(0);
        int[] due = {8, 0, 0, 0};
        for (int what = 0; what < 4; what++) {
            CHECK.due("nothing to read, the least P is 8: " + what, low.tuned(0, what), due[what]);
        }
        ClickingDisk high = Signals.disk("cell 60;mark 68 138;data 2;sum add;");
        high.read(0);
        CHECK.due("nothing to read by 60", high.tuned(0, 0), 54);
        Signals.tape(high, Signals.steps(Signals.raw(MARK, 1, 2, 30, 40, 0, 73) + "1", 63));
        high.read(1);
        CHECK.due("one is right", high.tuned(1, 2), 1);
        CHECK.due("P is within", high.tuned(1, 0) >= 54 && high.tuned(1, 0) <= 60, true);
        fewestSlips();
        sixToEachSide();
    }

    /** 105 and 119 are seven cells each by 16 alone: 15 makes 119 eight of them, 17 makes 105 six. */
    private static void sixToEachSide() {
        int[] steps = Signals.steps(Signals.raw(0x0204, 1, 2, 30, 0, 33) + "1", 16);
        steps[0] = 105;
        steps[1] = 119;
        int[] cells = {9, 10, 16, 22, 23};
        for (int cell : cells) {
            ClickingDisk disk = Signals.disk("cell " + cell + ";mark 2 4;data 1;sum add;");
            Signals.tape(disk, steps);
            disk.read(0);
            boolean near = cell >= 10 && cell <= 22;
            CHECK.due("right ones from " + cell, disk.tuned(0, 2), near ? 1 : 0);
            CHECK.due("P from " + cell, disk.tuned(0, 0), near ? 16 : Math.max(8, cell - 6));
            CHECK.due("G from " + cell, disk.tuned(0, 1), 0);
        }
    }

    /** Two ways to read a sector as right: the one with slips is at a lower P, and does not win. */
    private static void fewestSlips() {
        ClickingDisk disk = Signals.disk("cell 20;mark 68 138;data 1;sum add;");
        String good = Signals.raw(MARK, 0, 1, 2, 0, 3);
        Signals.read(disk, 0, 20, Signals.flip(good, 18));
        CHECK.due("slips are counted", disk.tuned(0, 3), 1);
        CHECK.due("of a right one", disk.tuned(0, 2), 1);
        Signals.read(disk, 0, 20, Signals.flip(good, 18) + Signals.flip(Signals.raw(MARK, 0, 2, 2, 0, 5), 18, 20));
        CHECK.due("of right ones alone", disk.tuned(1, 3), 1);
        CHECK.due("one of two is right", disk.tuned(1, 2), 1);
    }
}
