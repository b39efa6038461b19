/** Terms, part 2, and promises 6 to 10: each sentence that names a bound, at the last value taken and the first not. */
public final class EdgeTapeTest {
    private static final int MARK = 0x448a;
    private static final String HEAD = "cell 16;mark 68 138;";
    private static final int[] FAR = {Integer.MIN_VALUE, Integer.MAX_VALUE};
    private static final Check CHECK = new Check("EdgeTapeTest");

    public static void main(String[] args) {
        tapeOf320();
        readsAndDrives();
        cellsOfAStep();
        broughtToOneAndEight();
        clockGrows();
        clockIsHeld();
        theMark();
        bytesEnough();
        tracksAndSwap();
        whereSectorsBegin();
        firstEight();
        sumByAddAndXor();
        sumByCrc();
        slips();
        flux();
        wipe();
        read();
        raw();
        foundCount();
        foundParts();
        CHECK.close();
    }

    private static void tapeOf320() {
        CHECK.says("The TAPE has at most 320 STEPS, 1 .. 255.");
        for (int step : new int[] {1, 255}) {
            ClickingDisk disk = new ClickingDisk();
            CHECK.due("319", Signals.tape(disk, Signals.times(step, 319)), 319);
            CHECK.due("two more", disk.flux(step << 24 | step, 0, 0, 0, 0), -1);
            CHECK.due("one more", disk.flux(0, 0, step, 0, 0), 320);
            CHECK.due("one more again", disk.flux(0, 0, 0, step, 0), -1);
            CHECK.due("320 stay", disk.count(4), 320);
            CHECK.due("their bits", disk.raw(8, 0, -1), step == 1 ? 320 : 2560);
        }
        ClickingDisk disk = new ClickingDisk();
        CHECK.due("0 is no step, 1 and 255 are", disk.flux(0x000100ff, 0, 0, 0, 0), 2);
    }

    private static void readsAndDrives() {
        CHECK.says("A READ (at most 10, numbers as they come) is a TAPE and a DRIVE (0 .. 3).");
        ClickingDisk disk = Signals.disk(HEAD + "data 1;sum add;");
        for (int i = 0; i < 10; i++) {
            CHECK.due("drive -1", disk.read(-1), -1);
            CHECK.due("drive 4", disk.read(4), -1);
            Signals.tape(disk, Signals.steps(Signals.raw(MARK, 0, i, 9, 0, 9 + i) + "1", 16));
            CHECK.due("read " + i, disk.read(i % 4), i);
            CHECK.due("so many", disk.count(3), i + 1);
        }
        CHECK.due("an eleventh", disk.read(0), -1);
        CHECK.due("ten stay", disk.count(3), 10);
        for (int i = 0; i < 10; i++) {
            CHECK.due("the tape of read " + i, disk.found(i, 0, 2), i);
        }
        int[] hopes = {70, 70, 80, 80};
        for (int drive = 0; drive < 4; drive++) {
            CHECK.due("the reads of drive " + drive, disk.hope(drive), hopes[drive]);
        }
    }

    private static void bits(ClickingDisk disk, int p, int t, int n) {
        disk.flux(t, 0, 0, 0, 0);
        String what = "step " + t + " by " + p;
        CHECK.due(what, disk.raw(p, 0, -1), n);
        for (int k = 0; k < n; k++) {
            CHECK.due(what + ", bit " + k, disk.raw(p, 0, k), k == n - 1 ? 1 : 0);
        }
        CHECK.due(what + ", behind it", disk.raw(p, 0, n), -1);
        disk.wipe();
    }

    /** By c of 16 * P, n cells are (2n - 1) * P / 2 up to less than (2n + 1) * P / 2. */
    private static void cellsOfAStep() {
        CHECK.says("RAW bits of a TAPE by P and G: c is 16 * P at first; for each STEP t: n is (32 * t + c) / (2 * c) (cut),");
        for (int p = 8; p <= 60; p++) {
            ClickingDisk disk = new ClickingDisk();
            for (int n = 2; n <= 8; n++) {
                int first = ((2 * n - 1) * p + 1) / 2;
                if (first <= 255) {
                    bits(disk, p, first, n);
                    bits(disk, p, first - 1, n - 1);
                }
            }
        }
        CHECK.says("n - 1 bits 0 and a bit 1 come;");
        ClickingDisk disk = new ClickingDisk();
        bits(disk, 20, 20, 1);
        bits(disk, 20, 40, 2);
        bits(disk, 20, 160, 8);
    }

    private static void broughtToOneAndEight() {
        CHECK.says("brought to 1 .. 8;");
        ClickingDisk disk = new ClickingDisk();
        bits(disk, 60, 1, 1);
        bits(disk, 60, 29, 1);
        bits(disk, 60, 30, 1);
        bits(disk, 8, 3, 1);
        bits(disk, 8, 4, 1);
        bits(disk, 8, 67, 8);
        bits(disk, 8, 68, 8);
        bits(disk, 8, 255, 8);
        bits(disk, 30, 224, 7);
        bits(disk, 30, 225, 8);
        bits(disk, 30, 254, 8);
        bits(disk, 30, 255, 8);
        bits(disk, 29, 247, 8);
        bits(disk, 28, 238, 8);
    }

    /** The cells of a step behind some like ones. */
    private static int cellsBehind(int lead, int times, int t, int p, int g) {
        ClickingDisk disk = new ClickingDisk();
        Signals.tape(disk, Signals.times(lead, times));
        int ahead = disk.raw(p, g, -1);
        disk.flux(t, 0, 0, 0, 0);
        return disk.raw(p, g, -1) - ahead;
    }

    /** By P 20 c is 320; n cells of a step t come if 32 * t is at least (2n - 1) * c. */
    private static void clockGrows() {
        CHECK.says("then c grows by (16 * t / n (cut) - c) * G / 32 (floor),");
        CHECK.due("16 by G 1 is less than 32: c is 320", cellsBehind(21, 100, 30, 20, 1), 2);
        CHECK.due("16 by G 2 is 32: c is 321", cellsBehind(21, 1, 30, 20, 2), 1);
        CHECK.due("it stays at 321", cellsBehind(21, 100, 30, 20, 2), 1);
        CHECK.due("321 is not below", cellsBehind(21, 100, 31, 20, 2), 2);
        CHECK.due("by G 0 c is 320", cellsBehind(21, 100, 30, 20, 0), 2);
        CHECK.due("a floor brings c to 288, a cut would leave it at 319", cellsBehind(18, 100, 27, 20, 1), 2);
        CHECK.due("it is not below 288", cellsBehind(18, 100, 26, 20, 1), 1);
        CHECK.due("16 * 59 / 3 is 314, not 315", cellsBehind(59, 100, 108, 20, 1), 6);
        CHECK.due("nor 313", cellsBehind(59, 100, 147, 20, 1), 7);
        CHECK.due("by G 8 one step of 28 is 352: c is 352", cellsBehind(28, 1, 33, 20, 8), 2);
        CHECK.due("by G 8 c is not above 352", cellsBehind(28, 1, 32, 20, 8), 1);
    }

    /** By P 9 c is held in 108 .. 180: each of these four would be another by one less or more. */
    private static void clockIsHeld() {
        CHECK.says("and is brought to 12 * P .. 20 * P.");
        for (int g = 1; g <= 8; g++) {
            CHECK.due("107 would be 6 cells, G " + g, cellsBehind(1, 100, 37, 9, g), 5);
            CHECK.due("109 would be 6 cells, G " + g, cellsBehind(1, 100, 44, 9, g), 7);
            CHECK.due("181 would be 5 cells, G " + g, cellsBehind(255, 100, 62, 9, g), 6);
            CHECK.due("179 would be 3 cells, G " + g, cellsBehind(255, 100, 28, 9, g), 2);
        }
        CHECK.due("by G 0 it stays at 144", cellsBehind(1, 100, 36, 9, 0), 4);
        CHECK.due("by G 0 it stays at 144 too", cellsBehind(255, 100, 14, 9, 0), 2);
    }

    private static int foundIn(String format, String bits) {
        ClickingDisk disk = Signals.disk(format);
        Signals.read(disk, 0, 16, bits);
        return disk.found(0, -1, 0);
    }

    private static void theMark() {
        CHECK.says("A SECTOR: 16 RAW bits that are the MARK (A, then B, the highest bit first),");
        String good = Signals.raw(MARK, 1, 2, 3, 0, 6);
        CHECK.due("all 16", foundIn(HEAD + "data 1;sum add;", good), 1);
        for (int bit = 0; bit < 16; bit++) {
            CHECK.due("15 without " + bit, foundIn(HEAD + "data 1;sum add;", Signals.flip(good, bit)), 0);
        }
        CHECK.due("B, then A", foundIn("cell 16;mark 138 68;data 1;sum add;", good), 0);
        CHECK.due("255 255", foundIn("cell 16;mark 255 255;data 1;sum add;", "1".repeat(96)), 1);
        CHECK.due("254 255", foundIn("cell 16;mark 254 255;data 1;sum add;", "1".repeat(96)), 0);
        CHECK.due("0 0 can't be found", foundIn("cell 16;mark 0 0;data 1;sum add;", "00000001".repeat(20)), 0);
        CHECK.due("1 1 can", foundIn("cell 16;mark 1 1;data 1;sum add;", "00000001".repeat(12)), 1);
    }

    private static void bytesEnough() {
        CHECK.says("and behind them 4 + N bytes, of 16 RAW bits each:");
        for (int n = 1; n <= 8; n++) {
            int[] bytes = new int[4 + n];
            java.util.Arrays.fill(bytes, 1, 4 + n, 255);
            String bits = Signals.raw(MARK, bytes);
            CHECK.due("the last bit is 1", bits.endsWith("1"), true);
            ClickingDisk disk = Signals.disk(HEAD + "data " + n + ";sum add;");
            Signals.tape(disk, Signals.steps(bits, 16));
            CHECK.due("bits in all", disk.raw(16, 0, -1), 16 + 16 * (4 + n));
            disk.read(0);
            CHECK.due("just enough for " + n, disk.found(0, -1, 0), 1);
            CHECK.due("the last byte of data", disk.found(0, 0, 9 + n), 255);
            CHECK.due("the sum", disk.found(0, 0, 3), 65535);
            Signals.tape(disk, Signals.steps(bits.substring(0, bits.length() - 2) + "1", 16));
            CHECK.due("one bit less", disk.raw(16, 0, -1), 15 + 16 * (4 + n));
            disk.read(0);
            CHECK.due("not enough for " + n, disk.found(1, -1, 0), 0);
        }
        CHECK.says("the second, fourth, .. of these are its bits, the highest first; the others CLOCKS.");
        for (int bit = 0; bit < 8; bit++) {
            ClickingDisk disk = Signals.disk(HEAD + "data 1;sum add;");
            Signals.read(disk, 0, 16, Signals.raw(MARK, 0, 0, 128 >> bit, 0, 0));
            CHECK.due("bit " + bit, disk.found(0, 0, 10), 128 >> bit);
            Signals.read(disk, 0, 16, Signals.flip(Signals.raw(MARK, 0, 0, 128, 0, 0), 16 + 32 + 2 * bit));
            CHECK.due("clock " + bit + " is no bit", disk.found(1, 0, 10), 128);
            CHECK.due("but a slip", disk.found(1, 0, 5), 1);
        }
    }

    private static void tracksAndSwap() {
        CHECK.says("The bytes: TRACK and SECTOR number (with swap the other way round), N of data, two of SUM, the higher one first.");
        for (int swap = 0; swap < 2; swap++) {
            ClickingDisk disk = Signals.disk(HEAD + "data 1;sum add;" + (swap == 1 ? "swap;" : ""));
            Signals.read(disk, 0, 16, Signals.raw(MARK, 255, 0, 254, 1, 253));
            CHECK.due("track", disk.found(0, 0, 1), swap == 1 ? 0 : 255);
            CHECK.due("sector number", disk.found(0, 0, 2), swap == 1 ? 255 : 0);
            CHECK.due("data", disk.found(0, 0, 10), 254);
            CHECK.due("sum", disk.found(0, 0, 3), 256 + 253);
            CHECK.due("it is right", disk.status(swap == 1 ? 0 : 255, swap == 1 ? 255 : 0, 0), 1);
        }
    }

    private static void whereSectorsBegin() {
        CHECK.says("SECTORS of a READ are found from the first RAW bit on:");
        String good = Signals.raw(MARK, 1, 2, 3, 0, 6);
        for (int ahead = 0; ahead < 10; ahead++) {
            ClickingDisk disk = Signals.disk(HEAD + "data 1;sum add;");
            Signals.read(disk, 0, 16, "1".repeat(ahead) + good);
            CHECK.due("behind " + ahead, disk.found(0, 0, 0), 16 + ahead);
        }
        CHECK.says("where a MARK is and bytes enough behind it, it is one, and it goes on behind its last bit; else one bit further on.");
        String format = "cell 16;mark 17 17;data 1;sum add;";
        String last = Signals.raw(0x1111, 1, 2, 3, 0, 7);
        CHECK.due("one behind the other", foundIn(format, last + last), 2);
        CHECK.due("one bit more", foundIn(format, last + "1" + last), 2);
        lastBitIsNoFirst();
        ClickingDisk disk = Signals.disk(format);
        Signals.read(disk, 0, 16, "00010001" + last + "1111");
        CHECK.due("the first of three marks", disk.found(0, 0, 0), 16);
        CHECK.due("is one alone", disk.found(0, -1, 0), 1);
        Signals.read(disk, 0, 16, "1" + last.substring(1) + last);
        CHECK.due("a mark that is not whole is passed by", disk.found(1, 0, 0), 16 + 96);
        Signals.read(disk, 0, 16, last + Signals.bitsOf(0x1111, 16) + last.substring(16, 94));
        CHECK.due("a mark with a bit too few behind it is none", disk.found(2, -1, 0), 1);
    }

    /** A sector ends with bits as the mark begins: these do not count for both. */
    private static void lastBitIsNoFirst() {
        for (int shared = 1; shared <= 2; shared++) {
            int mark = shared == 1 ? 0x9111 : 0x5111;
            String format = "cell 16;mark " + (mark >> 8) + " 17;data 1;sum add;";
            String sector = Signals.raw(mark, 1, 2, 254, 1, 1);
            CHECK.due("it ends as the mark begins", sector.endsWith(Signals.bitsOf(mark, 16).substring(0, shared)), true);
            CHECK.due("one alone", foundIn(format, sector + sector.substring(shared)), 1);
            CHECK.due("two with all bits", foundIn(format, sector + sector), 2);
        }
    }

    /** Sectors of track 7 with numbers from 0 on, of which the first ones are wrong. */
    private static String many(int sectors, int wrong) {
        StringBuilder bits = new StringBuilder();
        for (int i = 0; i < sectors; i++) {
            bits.append("1").append(Signals.sparse(MARK, 7, i, 3, 0, i < wrong ? 255 : 10 + i));
        }
        return bits.toString();
    }

    private static void firstEight() {
        CHECK.says("(At most the first 8 count.)");
        for (int sectors = 0; sectors <= 10; sectors++) {
            ClickingDisk disk = Signals.disk(HEAD + "data 1;sum add;");
            Signals.read(disk, 0, 16, many(sectors, 7));
            int due = Math.min(8, sectors);
            CHECK.due("of " + sectors, disk.found(0, -1, 0), due);
            for (int k = 0; k <= sectors; k++) {
                CHECK.due("sector " + k + " of " + sectors, disk.found(0, k, 2), k < due ? k : -1);
                CHECK.due("copies of " + k + " of " + sectors, disk.status(7, k, 1), k < due ? 1 : 0);
                CHECK.due("right ones of " + k, disk.status(7, k, 2), k == 7 && k < due ? 1 : 0);
            }
            Signals.read(disk, 1, 16, many(sectors, 0));
            CHECK.due("right ones by tuned of " + sectors, disk.tuned(1, 2), due);
            CHECK.due("hope of " + sectors, disk.hope(0), sectors == 0 ? 40 : sectors < 8 ? -10 : 2);
        }
    }

    private static void sumDue(int n, String sum, int due, int... bytes) {
        ClickingDisk disk = Signals.disk(HEAD + "data " + n + ";" + sum);
        int[] all = java.util.Arrays.copyOf(bytes, n + 4);
        int[] offs = {0, 1, 256, 65535, 65280};
        for (int i = 0; i < offs.length; i++) {
            int read = due + offs[i] & 65535;
            all[n + 2] = read >> 8;
            all[n + 3] = read & 255;
            Signals.read(disk, 0, 16, Signals.raw(MARK, all));
            CHECK.due(sum + " as read", disk.found(i, 0, 3), read);
            CHECK.due(sum + " as it should be", disk.found(i, 0, 4), due);
            CHECK.due(sum + " right ones", disk.status(bytes[0], bytes[1], 2), 1);
        }
    }

    private static void sumByAddAndXor() {
        CHECK.says("A SECTOR is RIGHT, if its SUM is that of the bytes ahead of it, in their order: add: their sum; xor: all of them by exclusive or;");
        sumDue(8, "sum add;", 2550, 255, 255, 255, 255, 255, 255, 255, 255, 255, 255);
        sumDue(1, "sum add;", 0, 0, 0, 0);
        sumDue(1, "sum add;", 255, 0, 0, 255);
        sumDue(1, "sum add;", 256, 0, 1, 255);
        sumDue(1, "sum add;", 765, 255, 255, 255);
        sumDue(1, "sum xor;", 255, 255, 255, 255);
        sumDue(2, "sum xor;", 0, 255, 255, 255, 255);
        sumDue(8, "sum xor;", 1, 1, 2, 4, 8, 16, 32, 64, 128, 255, 1);
        sumDue(1, "sum xor;", 0, 0, 0, 0);
    }

    private static void sumByCrc() {
        CHECK.says("crc: v is S at first; for each byte v becomes v xor 256 times it, and eight times: v is doubled, and, if bit 15 was on, xor X;");
        sumDue(7, "sum crc 4129 65535;", 0x29b1, '1', '2', '3', '4', '5', '6', '7', '8', '9');
        sumDue(7, "sum crc 4129 0;", 0x31c3, '1', '2', '3', '4', '5', '6', '7', '8', '9');
        sumDue(7, "sum crc 32773 0;", 0xfee8, '1', '2', '3', '4', '5', '6', '7', '8', '9');
        sumDue(7, "sum crc 4129 7439;", 0xe5cc, '1', '2', '3', '4', '5', '6', '7', '8', '9');
        sumDue(1, "sum crc 0 65535;", 0, 255, 255, 255);
        sumDue(1, "sum crc 65535 0;", 0, 0, 0, 0);
        sumDue(1, "sum crc 1 0;", 1, 0, 0, 1);
        CHECK.says("the lowest 16 bits each time.");
        int[] ones = {255, 255, 255, 255, 255, 255, 255, 255, 255, 255};
        sumDue(8, "sum crc 65535 65535;", Signals.crc(65535, 65535, ones), ones);
        sumDue(8, "sum crc 32768 32768;", Signals.crc(32768, 32768, ones), ones);
        sumDue(1, "sum crc 65535 1;", Signals.crc(65535, 1, 128, 0, 1), 128, 0, 1);
    }

    /** All bytes are 85: no two bits 0 meet but at the first clock, where B ends with 0. */
    private static void slips() {
        CHECK.says("SLIPS are its CLOCKS that are not as they should be: 1 if the bit of a byte ahead of it and that behind it are both 0, else 0");
        for (int n = 1; n <= 8; n++) {
            int[] bytes = new int[4 + n];
            java.util.Arrays.fill(bytes, 85);
            String bits = Signals.raw(MARK, bytes);
            ClickingDisk disk = Signals.disk(HEAD + "data " + n + ";sum add;");
            Signals.read(disk, 0, 16, bits);
            CHECK.due("none", disk.found(0, 0, 5), 0);
            int clocks = 8 * (4 + n);
            int[] all = new int[clocks];
            for (int i = 0; i < clocks; i++) {
                all[i] = 16 + 2 * i;
            }
            Signals.read(disk, 0, 16, Signals.flip(bits, all));
            CHECK.due("all", disk.found(1, 0, 5), clocks);
            Signals.read(disk, 0, 16, Signals.flip(bits, java.util.Arrays.copyOf(all, clocks - 1)));
            CHECK.due("all but the last", disk.found(2, 0, 5), clocks - 1);
            Signals.read(disk, 0, 16, Signals.flip(bits, all[clocks - 1]));
            CHECK.due("the last", disk.found(3, 0, 5), 1);
            Signals.read(disk, 0, 16, Signals.flip(bits, all[0]));
            CHECK.due("the first", disk.found(4, 0, 5), 1);
            Signals.read(disk, 0, 16, Signals.flip(bits, 0) + "1" + bits);
            CHECK.due("none in the mark", disk.found(5, 0, 5), 0);
            Signals.tape(disk, Signals.steps(Signals.flip(bits, all[clocks - 1]), 16));
            CHECK.due("its bits are all", disk.raw(16, 0, -1), bits.length());
            disk.read(0);
            CHECK.due("the last, with no bit behind it", disk.found(6, 0, 5), 1);
        }
        CHECK.says("(ahead of the first CLOCK: the lowest bit of B).");
        int[][] rows = {{0x448a, 0, '1'}, {0x448a, 128, '0'}, {0x4489, 0, '0'}, {0x4489, 128, '0'}};
        for (int[] row : rows) {
            ClickingDisk disk = Signals.disk("cell 16;mark 68 " + (row[0] & 255) + ";data 1;sum add;");
            String bits = Signals.raw(row[0], row[1], 85, 85, 85, 85);
            CHECK.due("the first clock", bits.charAt(16), row[2]);
            Signals.read(disk, 0, 16, bits);
            Signals.read(disk, 0, 16, Signals.flip(bits, 16));
            CHECK.due("as it should be", disk.found(0, 0, 5), 0);
            CHECK.due("not as it should be", disk.found(1, 0, 5), 1);
        }
    }

    private static void flux() {
        CHECK.says("STEPS come behind those of the TAPE: the bytes of five numbers, of each the highest first, zeros left out:");
        ClickingDisk disk = new ClickingDisk();
        CHECK.due("zeros alone", disk.flux(0, 0, 0, 0, 0), 0);
        for (int place = 0; place < 20; place++) {
            int[] five = new int[5];
            five[place / 4] = 8 + 8 * (place % 8) << 24 - 8 * (place % 4);
            CHECK.due("byte " + place, disk.flux(five[0], five[1], five[2], five[3], five[4]), place + 1);
        }
        int at = 0;
        for (int place = 0; place < 20; place++) {
            at += 1 + place % 8;
            CHECK.due("the bit of byte " + place, disk.raw(8, 0, at - 1), 1);
        }
        CHECK.due("bits in all", disk.raw(8, 0, -1), at);
        CHECK.due("twenty more", disk.flux(-1, -1, -1, -1, -1), 40);
        disk.wipe();
        disk.flux(0x10081808, 0x20000000, 0, 0, 0x00000010);
        String due = "01" + "1" + "001" + "1" + "0001" + "01";
        for (int k = 0; k < due.length(); k++) {
            CHECK.due("bit " + k, disk.raw(8, 0, k), due.charAt(k) - '0');
        }
        CHECK.says("how many there are; NONE if there would be more than 320.");
        for (int free = 0; free <= 21; free++) {
            disk = new ClickingDisk();
            Signals.tape(disk, Signals.times(9, 320 - free));
            CHECK.due("20 more with room for " + free, disk.flux(-1, -1, -1, -1, -1), free < 20 ? -1 : 340 - free);
            CHECK.due("what is there", disk.count(4), free < 20 ? 320 - free : 340 - free);
        }
        CHECK.due("zeros fit always", disk.flux(0, 0, 0, 0, 0), 319);
        CHECK.due("19 zeros and one", disk.flux(0, 0, 0, 1 << 16, 0), 320);
        CHECK.due("zeros fit at 320", disk.flux(0, 0, 0, 0, 0), 320);
    }

    private static void wipe() {
        CHECK.says("The TAPE is empty: how many it had.");
        ClickingDisk disk = new ClickingDisk();
        CHECK.due("of none", disk.wipe(), 0);
        disk.flux(1, 0, 0, 0, 0);
        CHECK.due("of one", disk.wipe(), 1);
        CHECK.due("it is empty", disk.count(4), 0);
        CHECK.due("it has no bits", disk.raw(8, 0, -1), 0);
        Signals.tape(disk, Signals.times(7, 320));
        CHECK.due("of 320", disk.wipe(), 320);
        CHECK.due("again", disk.wipe(), 0);
        CHECK.due("there is room again", Signals.tape(disk, Signals.times(7, 320)), 320);
    }

    private static void read() {
        CHECK.says("A READ of the TAPE (which is empty then): its number; NONE if there is no FORMAT, no such DRIVE, or 10 came.");
        ClickingDisk disk = new ClickingDisk();
        Signals.tape(disk, Signals.times(7, 320));
        CHECK.due("no format", disk.read(0), -1);
        CHECK.due("the tape stays", disk.count(4), 320);
        Signals.text(disk, HEAD + "data 1;sum add;");
        disk.format();
        Signals.tape(disk, Signals.times(7, 320));
        for (int drive : new int[] {-1, 4, Integer.MIN_VALUE, Integer.MAX_VALUE}) {
            CHECK.due("drive " + drive, disk.read(drive), -1);
            CHECK.due("the tape stays", disk.count(4), 320);
            CHECK.due("no read came", disk.count(3), 0);
        }
        CHECK.due("drive 3", disk.read(3), 0);
        CHECK.due("the tape is empty", disk.count(4), 0);
        CHECK.due("drive 0 by an empty tape", disk.read(0), 1);
        CHECK.due("it has no sectors", disk.found(1, -1, 0), 0);
        for (int i = 2; i < 10; i++) {
            CHECK.due("read " + i, disk.read(0), i);
        }
        disk.flux(1, 1, 0, 0, 0);
        CHECK.due("10 came", disk.read(0), -1);
        CHECK.due("the tape stays", disk.count(4), 2);
        CHECK.due("an eleventh of no drive", disk.read(4), -1);
    }

    private static void raw() {
        CHECK.says("How many RAW bits the TAPE has (k NONE), or the k-th, by P and G (8 .. 60, 0 .. 8); NONE if they can't be, or there is none such.");
        ClickingDisk disk = new ClickingDisk();
        CHECK.due("of an empty tape", disk.raw(8, 0, -1), 0);
        CHECK.due("the first of an empty tape", disk.raw(8, 0, 0), -1);
        CHECK.due("by a P that can't be", disk.raw(7, 0, -1), -1);
        disk.flux(60, 120, 0, 0, 0);
        int[][] good = {{8, 0, 16}, {60, 0, 3}, {60, 8, 3}, {8, 8, 16}, {59, 1, 3}, {9, 7, 15}};
        for (int[] row : good) {
            String by = row[0] + " and " + row[1];
            CHECK.due("how many by " + by, disk.raw(row[0], row[1], -1), row[2]);
            CHECK.due("ahead by " + by, disk.raw(row[0], row[1], -2), -1);
            CHECK.due("the last but one by " + by, disk.raw(row[0], row[1], row[2] - 2), 0);
            CHECK.due("the last by " + by, disk.raw(row[0], row[1], row[2] - 1), 1);
            CHECK.due("behind by " + by, disk.raw(row[0], row[1], row[2]), -1);
            for (int far : FAR) {
                CHECK.due("far by " + by, disk.raw(row[0], row[1], far), -1);
            }
        }
        int[][] off = {{7, 0}, {61, 0}, {20, -1}, {20, 9}, {Integer.MIN_VALUE, 0}, {Integer.MAX_VALUE, 0},
            {20, Integer.MIN_VALUE}, {20, Integer.MAX_VALUE}, {0, 0}, {-8, 0}};
        for (int[] row : off) {
            CHECK.due("by " + row[0] + " and " + row[1], disk.raw(row[0], row[1], -1), -1);
            CHECK.due("the first by " + row[0] + " and " + row[1], disk.raw(row[0], row[1], 0), -1);
        }
        CHECK.due("the first by 60", disk.raw(60, 0, 0), 1);
        CHECK.due("the second by 60", disk.raw(60, 0, 1), 0);
        CHECK.due("the third by 60", disk.raw(60, 0, 2), 1);
    }

    private static void foundCount() {
        CHECK.says("How many SECTORS a READ has (k NONE);");
        ClickingDisk disk = Signals.disk(HEAD + "data 1;sum add;");
        CHECK.due("of no read", disk.found(0, -1, 0), -1);
        int[] sectors = {0, 1, 2, 7, 8, 9};
        for (int read = 0; read < sectors.length; read++) {
            Signals.read(disk, 0, 16, many(sectors[read], 0));
            CHECK.due("of read " + read, disk.found(read, -1, 0), Math.min(8, sectors[read]));
            CHECK.due("of the next", disk.found(read + 1, -1, 0), -1);
        }
        CHECK.due("of read -1", disk.found(-1, -1, 0), -1);
        for (int far : FAR) {
            CHECK.due("of read " + far, disk.found(far, -1, 0), -1);
            CHECK.due("of sector " + far, disk.found(1, far, 0), -1);
        }
        for (int i = sectors.length; i < 10; i++) {
            disk.read(0);
        }
        CHECK.due("of the tenth", disk.found(9, -1, 0), 0);
        CHECK.due("of an eleventh", disk.found(10, -1, 0), -1);
    }

    private static void foundParts() {
        CHECK.says("of the k-th 0 its place (the first RAW bit behind the MARK), 1 the TRACK, 2 the SECTOR number, 3 the SUM as read, 4 as it should be, 5 SLIPS, 10 and i: byte i of data.");
        for (int n = 1; n <= 8; n++) {
            int[] bytes = new int[4 + n];
            for (int i = 0; i < 4 + n; i++) {
                bytes[i] = 255 - i;
            }
            int sum = 0;
            for (int i = 0; i < 2 + n; i++) {
                sum += bytes[i];
            }
            ClickingDisk disk = Signals.disk(HEAD + "data " + n + ";sum add;");
            Signals.read(disk, 0, 16, "1" + Signals.flip(Signals.raw(MARK, bytes), 16));
            int[] due = {17, 255, 254, 256 * bytes[2 + n] + bytes[3 + n], sum, 1};
            for (int what = 0; what < 6; what++) {
                CHECK.due("what " + what + " of N " + n, disk.found(0, 0, what), due[what]);
            }
            for (int i = 0; i < n; i++) {
                CHECK.due("byte " + i + " of N " + n, disk.found(0, 0, 10 + i), bytes[2 + i]);
            }
            others(disk, n);
        }
        CHECK.says("NONE for others, or if there is none such.");
        ClickingDisk disk = Signals.disk(HEAD + "data 8;sum add;");
        disk.read(0);
        for (int what = -1; what < 20; what++) {
            CHECK.due("of no sector " + what, disk.found(0, 0, what), -1);
            CHECK.due("of no read " + what, disk.found(1, 0, what), -1);
        }
    }

    private static void others(ClickingDisk disk, int n) {
        for (int what : new int[] {-2, -1, 6, 7, 8, 9, 10 + n, 11 + n, 18, Integer.MIN_VALUE, Integer.MAX_VALUE}) {
            CHECK.due("what " + what + " of N " + n, disk.found(0, 0, what), -1);
        }
        for (int k : new int[] {-2, 1, 2, 8, Integer.MIN_VALUE, Integer.MAX_VALUE}) {
            CHECK.due("sector " + k, disk.found(0, k, 1), -1);
        }
        for (int read : new int[] {-1, 1, 9, 10, Integer.MIN_VALUE, Integer.MAX_VALUE}) {
            CHECK.due("read " + read, disk.found(read, 0, 1), -1);
        }
    }
}
