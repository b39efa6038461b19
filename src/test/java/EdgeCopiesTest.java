/** Terms, part 3, and promises 12 and 13: each sentence that names a bound, at the last value taken and the first not. */
public final class EdgeCopiesTest {
    private static final int MARK = 0x448a;
    private static final Check CHECK = new Check("EdgeCopiesTest");

    public static void main(String[] args) {
        copiesOfAll();
        noneThere();
        right();
        strife();
        mendedByJustOne();
        anyOfTheRows();
        oneAfterTheOther();
        rowsByPlaces();
        rowsOfThreeSpots();
        rowsOfTenSpots();
        unlikeRows();
        open();
        votes();
        sure();
        status();
        value();
        CHECK.close();
    }

    private static ClickingDisk disk(int n, String more) {
        return Signals.disk("cell 16;mark 68 138;data " + n + ";" + more);
    }

    /** Rows of bytes come as sectors, so many to a read. */
    private static void put(ClickingDisk disk, int toARead, int[]... rows) {
        for (int at = 0; at < rows.length; at += toARead) {
            StringBuilder bits = new StringBuilder();
            for (int i = at; i < rows.length && i < at + toARead; i++) {
                bits.append("1").append(Signals.sparse(MARK, rows[i]));
            }
            Signals.read(disk, 0, 16, bits.toString());
        }
    }

    private static int[] row(int... bytes) {
        return bytes;
    }

    private static void state(ClickingDisk disk, String when, int status, int copies, int right) {
        CHECK.due(when + ": status", disk.status(3, 4, 0), status);
        CHECK.due(when + ": copies", disk.status(3, 4, 1), copies);
        CHECK.due(when + ": right ones", disk.status(3, 4, 2), right);
    }

    private static void copiesOfAll() {
        CHECK.says("COPIES of a TRACK and a SECTOR number are all SECTORS of these numbers in all READS (by P and G of the FORMAT), by READS, then as they are found.");
        ClickingDisk disk = disk(1, "sum add;");
        for (int i = 1; i <= 10; i++) {
            int[][] rows = new int[8][];
            for (int k = 0; k < 8; k++) {
                rows[k] = row(3, 4, 9, 0, 16);
            }
            put(disk, 8, rows);
            state(disk, "after read " + i, 1, 8 * i, 8 * i);
        }
        CHECK.due("other track", disk.status(4, 4, 1), 0);
        CHECK.due("other number", disk.status(3, 3, 1), 0);
        CHECK.due("the other way round", disk.status(4, 3, 1), 0);
        ClickingDisk swapped = disk(1, "sum add;swap;");
        put(swapped, 8, row(4, 3, 9, 0, 16));
        state(swapped, "by swap", 1, 1, 1);
        int[] quick = Signals.steps(Signals.raw(MARK, 3, 4, 9, 0, 16) + "1", 12);
        for (int cell = 12; cell <= 18; cell += 6) {
            ClickingDisk by = Signals.disk("cell " + cell + ";mark 68 138;data 1;sum add;");
            Signals.tape(by, quick);
            by.read(0);
            CHECK.due("tuned reads it from " + cell, by.tuned(0, 2), 1);
            state(by, "by the P of the format, " + cell, cell == 12 ? 1 : 0, cell == 12 ? 1 : 0, cell == 12 ? 1 : 0);
        }
    }

    private static void noneThere() {
        CHECK.says("The STATUS: 0 NONE there;");
        ClickingDisk disk = disk(1, "sum add;");
        state(disk, "no reads", 0, 0, 0);
        disk.read(0);
        state(disk, "a read of nothing", 0, 0, 0);
        put(disk, 8, row(3, 5, 9, 0, 17), row(2, 4, 9, 0, 15));
        state(disk, "others alone", 0, 0, 0);
        put(disk, 8, row(3, 4, 9, 1, 16));
        state(disk, "one", 4, 1, 0);
    }

    private static void right() {
        CHECK.says("1 RIGHT: some are RIGHT, all of these have the same data;");
        ClickingDisk disk = disk(1, "sum add;");
        for (int i = 0; i < 10; i++) {
            int[][] rows = new int[8][];
            for (int k = 0; k < 8; k++) {
                rows[k] = i == 9 && k == 7 ? row(3, 4, 9, 0, 16) : row(3, 4, 200 + k, 1, 16 + i);
            }
            if (i == 9) {
                state(disk, "72 that are wrong", 4, 72, 0);
            }
            put(disk, 8, rows);
        }
        state(disk, "one of 80", 1, 80, 1);
        CHECK.due("its byte", disk.value(3, 4, 0), 256 + 9);
        ClickingDisk same = disk(8, "sum add;");
        for (int i = 1; i <= 10; i++) {
            put(same, 1, row(3, 4, 0, 255, 0, 255, 0, 255, 0, 255, 4, 3));
            state(same, "the same " + i, 1, i, i);
        }
        for (int i = 0; i < 8; i++) {
            CHECK.due("byte " + i, same.value(3, 4, i), i % 2 == 0 ? 256 : 511);
        }
    }

    private static void strife() {
        CHECK.says("2 STRIFE: some are RIGHT, of unlike data;");
        for (int n = 1; n <= 8; n++) {
            for (int spot = 0; spot < n; spot++) {
                ClickingDisk disk = disk(n, "sum xor;");
                int[] one = new int[4 + n];
                one[0] = 3;
                one[1] = 4;
                one[3 + n] = 7;
                put(disk, 1, one);
                state(disk, "one", 1, 1, 1);
                int[] other = one.clone();
                other[2 + spot] ^= 1;
                other[3 + n] ^= 1;
                put(disk, 1, other);
                state(disk, "unlike in " + spot + " of " + n, 2, 2, 2);
                CHECK.due("the least", disk.value(3, 4, spot), 0);
            }
        }
        ClickingDisk disk = disk(2, "sum add;");
        put(disk, 4, row(3, 4, 1, 2, 0, 10), row(3, 4, 1, 2, 0, 10), row(3, 4, 1, 2, 0, 10), row(3, 4, 2, 1, 0, 10));
        state(disk, "three of one, one of another", 2, 4, 4);
        CHECK.due("votes of all", disk.value(3, 4, 0), 256 + 1);
    }

    private static void mendedByJustOne() {
        CHECK.says("3 MENDED: none is RIGHT, but of all rows that take each byte of data and SUM from some COPY's same place just one has the right SUM");
        ClickingDisk none = disk(1, "sum add;");
        put(none, 8, row(3, 4, 1, 0, 10), row(3, 4, 2, 0, 11));
        state(none, "no row", 4, 2, 0);
        ClickingDisk one = disk(1, "sum add;");
        put(one, 8, row(3, 4, 1, 0, 9), row(3, 4, 2, 0, 11));
        state(one, "one row", 3, 2, 0);
        CHECK.due("its byte", one.value(3, 4, 0), 256 + 2);
        ClickingDisk two = disk(1, "sum add;");
        put(two, 8, row(3, 4, 1, 0, 9), row(3, 4, 2, 0, 8));
        state(two, "two rows", 4, 2, 0);
        ClickingDisk some = disk(1, "sum add;");
        put(some, 8, row(3, 4, 1, 0, 9), row(3, 4, 2, 0, 11), row(3, 4, 2, 0, 9));
        state(some, "a right one is ahead of rows", 1, 3, 1);
        ClickingDisk again = disk(1, "sum add;");
        put(again, 8, row(3, 4, 1, 0, 9), row(3, 4, 2, 0, 11), row(3, 4, 1, 0, 9), row(3, 4, 2, 0, 11));
        state(again, "a row of like copies is one", 3, 4, 0);
        put(again, 8, row(3, 4, 4, 0, 9));
        state(again, "4 and 11 are another", 4, 5, 0);
    }

    /** Two copies that are unlike in each place: each of their rows, the first and the last one too, can be the right one. */
    private static void anyOfTheRows() {
        CHECK.says("of all rows that take each byte of data and SUM from some COPY's same place just one has the right SUM");
        for (int n = 1; n <= 4; n++) {
            for (int choice = 0; choice < 1 << n; choice++) {
                int[] good = new int[2 + n];
                int[][] copies = new int[2][4 + n];
                for (int i = 0; i < n; i++) {
                    copies[0][2 + i] = 10 + i;
                    copies[1][2 + i] = 90 + 3 * i;
                    good[2 + i] = copies[choice >> i & 1][2 + i];
                }
                good[0] = 3;
                good[1] = 4;
                int sum = Signals.crc(4129, 65535, good);
                for (int c = 0; c < 2; c++) {
                    copies[c][0] = 3;
                    copies[c][1] = 4;
                    copies[c][2 + n] = sum >> 8 ^ (c == 0 ? 0 : 85);
                    copies[c][3 + n] = sum & 255 ^ (c == 0 ? 85 : 0);
                }
                ClickingDisk disk = disk(n, "sum crc 4129 65535;");
                put(disk, 1, copies);
                state(disk, "row " + choice + " of " + n, 3, 2, 0);
                for (int i = 0; i < n; i++) {
                    CHECK.due("byte " + i + " of row " + choice, disk.value(3, 4, i), 256 + good[2 + i]);
                }
            }
        }
    }

    /** What the rows of one sector had leaves nothing behind for those of another. */
    private static void oneAfterTheOther() {
        CHECK.says("just one has the right SUM");
        ClickingDisk disk = disk(2, "sum add;");
        put(disk, 4, row(1, 1, 20, 11, 0, 32), row(1, 1, 21, 10, 0, 34), row(1, 1, 22, 10, 0, 33));
        put(disk, 4, row(3, 4, 10, 20, 0, 40), row(3, 4, 10, 21, 0, 40), row(3, 4, 10, 20, 0, 38));
        put(disk, 4, row(2, 2, 10, 20, 0, 40), row(2, 2, 10, 21, 0, 40), row(2, 2, 10, 20, 0, 35));
        for (int i = 0; i < 3; i++) {
            CHECK.due("more than one", disk.status(1, 1, 0), 4);
            CHECK.due("just one", disk.status(2, 2, 0), 3);
            CHECK.due("more than one again", disk.status(1, 1, 0), 4);
            state(disk, "just one of another", 3, 3, 0);
            CHECK.due("its byte", disk.value(3, 4, 1), 256 + 21);
        }
    }

    /** Each byte comes from its own place: data that are right in another place do not mend. */
    private static void rowsByPlaces() {
        CHECK.says("from some COPY's same place");
        ClickingDisk moved = disk(2, "sum crc 4129 0;");
        int sum = Signals.crc(4129, 0, 3, 4, 10, 20);
        put(moved, 4, row(3, 4, 20, 10, sum >> 8, sum & 255), row(3, 4, 20, 11, sum >> 8, sum & 255));
        state(moved, "10 and 20 at the wrong places", 4, 2, 0);
        put(moved, 4, row(3, 4, 10, 10, sum >> 8, sum & 255));
        state(moved, "10 at its place", 4, 3, 0);
        put(moved, 4, row(3, 4, 30, 20, sum >> 8, sum & 255));
        state(moved, "20 at its place", 3, 4, 0);
        CHECK.due("byte 0", moved.value(3, 4, 0), 256 + 10);
        CHECK.due("byte 1", moved.value(3, 4, 1), 256 + 20);
        ClickingDisk parts = disk(1, "sum add;");
        put(parts, 4, row(3, 4, 249, 0, 0), row(3, 4, 249, 1, 255));
        state(parts, "the sum's two bytes come one from each", 3, 2, 0);
        CHECK.due("byte 0 of it", parts.value(3, 4, 0), 256 + 249);
    }

    /**
     * One byte of data: its kinds times those of the two bytes of the sum. 4097, 4098 and 4099 have a factor above 80,
     * and there are at most 80 copies: the first number above 4096 that can be is 4100, 41 times 10 times 10.
     */
    private static void rowsOfThreeSpots() {
        CHECK.says("(looked at if there are at most 4096 rows, unlike ones);");
        ClickingDisk most = disk(1, "sum add;");
        int[][] rows = new int[16][];
        for (int j = 0; j < 16; j++) {
            rows[j] = row(3, 4, j, j, j == 9 ? 12 : 100 + j);
        }
        put(most, 8, rows);
        state(most, "16 * 16 * 16 are 4096", 3, 16, 0);
        CHECK.due("just 5 fits", most.value(3, 4, 0), 256 + 5);
        ClickingDisk above = disk(1, "sum add;");
        rows = new int[41][];
        for (int j = 0; j < 41; j++) {
            rows[j] = row(3, 4, j, j % 10, j / 4 == 9 ? 12 : 100 + j / 4 % 10);
        }
        put(above, 8, rows);
        state(above, "41 * 10 * 10 are 4100", 4, 41, 0);
        CHECK.due("it is not looked at", above.value(3, 4, 0), 0);
        ClickingDisk below = disk(1, "sum add;");
        for (int j = 0; j < 41; j++) {
            rows[j][2] = Math.min(39, j);
        }
        put(below, 8, rows);
        state(below, "40 * 10 * 10 are 4000", 3, 41, 0);
        CHECK.due("just 5 fits again", below.value(3, 4, 0), 256 + 5);
    }

    /** Kinds of the ten spots: 4, 4 and eight times 2 are 4096; 5, 4 and eight times 2 are 5120. */
    private static void rowsOfTenSpots() {
        CHECK.says("(looked at if there are at most 4096 rows, unlike ones);");
        int[] good = {3, 4, 11, 22, 33, 44, 55, 66, 77, 88};
        int sum = Signals.crc(4129, 65535, good);
        int[] whole = java.util.Arrays.copyOf(good, 12);
        whole[10] = sum >> 8;
        whole[11] = sum & 255;
        ClickingDisk disk = disk(8, "sum crc 4129 65535;");
        for (int j = 0; j < 4; j++) {
            int[] copy = whole.clone();
            copy[2] += j;
            copy[3] += j ^ 1;
            for (int spot = 4; spot < 12; spot++) {
                copy[spot] ^= (j + spot) % 2;
            }
            put(disk, 1, copy);
        }
        state(disk, "4096 rows", 3, 4, 0);
        for (int i = 0; i < 8; i++) {
            CHECK.due("byte " + i, disk.value(3, 4, i), 256 + good[2 + i]);
        }
        int[] more = whole.clone();
        more[2] = 200;
        more[3] = good[3] + 1;
        put(disk, 1, more);
        state(disk, "5120 rows", 4, 5, 0);
    }

    private static void unlikeRows() {
        CHECK.says("rows, unlike ones);");
        ClickingDisk disk = disk(1, "sum add;");
        for (int i = 0; i < 10; i++) {
            int[][] rows = new int[8][];
            for (int k = 0; k < 8; k++) {
                rows[k] = k % 2 == 0 ? row(3, 4, 1, 0, 9) : row(3, 4, 2, 0, 11);
            }
            put(disk, 8, rows);
        }
        state(disk, "80 copies of two kinds are four rows", 3, 80, 0);
        CHECK.due("its byte", disk.value(3, 4, 0), 256 + 2);
        ClickingDisk alike = disk(8, "sum add;");
        for (int i = 0; i < 10; i++) {
            put(alike, 1, row(3, 4, 1, 2, 3, 4, 5, 6, 7, 8, 9, 9));
        }
        state(alike, "ten like copies are one row", 4, 10, 0);
    }

    private static void open() {
        CHECK.says("4 OPEN: else.");
        ClickingDisk disk = disk(1, "sum xor;");
        put(disk, 8, row(3, 4, 9, 0, 15));
        state(disk, "one that is wrong", 4, 1, 0);
        put(disk, 8, row(3, 4, 9, 1, 14));
        state(disk, "two of which one can be made", 3, 2, 0);
        put(disk, 8, row(3, 4, 8, 1, 14));
        state(disk, "8 and 15 are another", 4, 3, 0);
        put(disk, 8, row(3, 4, 8, 0, 15));
        state(disk, "8 is right", 1, 4, 1);
        put(disk, 8, row(3, 4, 9, 0, 14));
        state(disk, "9 is right too", 2, 5, 2);
    }

    private static void votes() {
        CHECK.says("A byte of data: RIGHT, MENDED: that one; STRIFE, OPEN: what most COPIES have there, of like ones the least.");
        int[][] rows = {{0, 1}, {254, 255}, {0, 255}, {127, 128}};
        for (int[] pair : rows) {
            for (int first = 0; first < 2; first++) {
                ClickingDisk disk = disk(1, "sum xor;");
                put(disk, 8, row(3, 4, pair[first], 99, 99));
                CHECK.due("alone", disk.value(3, 4, 0), 256 + pair[first]);
                put(disk, 8, row(3, 4, pair[1 - first], 99, 99));
                state(disk, "open", 4, 2, 0);
                CHECK.due("of like ones the least", disk.value(3, 4, 0), pair[0]);
                put(disk, 8, row(3, 4, pair[1], 99, 99));
                CHECK.due("two of three", disk.value(3, 4, 0), 256 + pair[1]);
                put(disk, 8, row(3, 4, pair[0], 99, 99));
                CHECK.due("two of four each", disk.value(3, 4, 0), pair[0]);
            }
        }
        ClickingDisk three = disk(1, "sum xor;");
        put(three, 8, row(3, 4, 30, 99, 99), row(3, 4, 20, 99, 99), row(3, 4, 20, 99, 99), row(3, 4, 10, 99, 99),
            row(3, 4, 30, 99, 99));
        CHECK.due("30 20 20 10 30", three.value(3, 4, 0), 20);
        ClickingDisk strife = disk(1, "sum add;");
        put(strife, 8, row(3, 4, 9, 0, 16), row(3, 4, 8, 0, 15), row(3, 4, 200, 9, 9), row(3, 4, 200, 9, 9));
        state(strife, "strife", 2, 4, 2);
        CHECK.due("wrong ones have votes", strife.value(3, 4, 0), 200);
        ClickingDisk right = disk(1, "sum add;");
        put(right, 8, row(3, 4, 9, 0, 16), row(3, 4, 8, 9, 9), row(3, 4, 8, 9, 9), row(3, 4, 8, 9, 9));
        CHECK.due("a right one has the word", right.value(3, 4, 0), 256 + 9);
        ClickingDisk mended = disk(1, "sum add;");
        put(mended, 8, row(3, 4, 9, 9, 16), row(3, 4, 8, 0, 17), row(3, 4, 8, 0, 17), row(3, 4, 8, 0, 17));
        state(mended, "mended", 3, 4, 0);
        CHECK.due("a mended one has the word", mended.value(3, 4, 0), 256 + 9);
    }

    /** Of 80 copies 40 are half, and 41 more than half. */
    private static void sure() {
        CHECK.says("SURE is a byte of RIGHT and MENDED, and of others what more than half of the COPIES have.");
        for (int ofOne = 39; ofOne <= 41; ofOne++) {
            ClickingDisk disk = disk(1, "sum add;");
            int[][] rows = new int[80][];
            for (int j = 0; j < 80; j++) {
                rows[j] = row(3, 4, j < ofOne ? 50 : 70, 99, 99);
            }
            put(disk, 8, rows);
            state(disk, "open", 4, 80, 0);
            CHECK.due(ofOne + " of 80", disk.value(3, 4, 0), ofOne == 39 ? 256 + 70 : ofOne == 40 ? 50 : 256 + 50);
        }
        ClickingDisk odd = disk(1, "sum add;");
        put(odd, 8, row(3, 4, 5, 99, 99), row(3, 4, 6, 99, 99), row(3, 4, 7, 99, 99));
        CHECK.due("one of three", odd.value(3, 4, 0), 5);
        put(odd, 8, row(3, 4, 7, 99, 99));
        CHECK.due("two of four", odd.value(3, 4, 0), 7);
        put(odd, 8, row(3, 4, 7, 99, 99));
        CHECK.due("three of five", odd.value(3, 4, 0), 256 + 7);
        ClickingDisk strife = disk(1, "sum add;");
        put(strife, 8, row(3, 4, 9, 0, 16), row(3, 4, 8, 0, 15));
        CHECK.due("one of two in strife", strife.value(3, 4, 0), 8);
        put(strife, 8, row(3, 4, 9, 0, 16));
        CHECK.due("two of three in strife", strife.value(3, 4, 0), 256 + 9);
        ClickingDisk right = disk(1, "sum add;");
        put(right, 8, row(3, 4, 0, 0, 7), row(3, 4, 0, 9, 9), row(3, 4, 1, 9, 9), row(3, 4, 1, 9, 9), row(3, 4, 1, 9, 9));
        CHECK.due("a right one of few is sure", right.value(3, 4, 0), 256);
    }

    private static void status() {
        CHECK.says("0 the STATUS, 1 how many COPIES, 2 how many are RIGHT. NONE for others, if there is no FORMAT, or the numbers aren't 0 .. 255.");
        ClickingDisk none = new ClickingDisk();
        for (int what = -1; what <= 3; what++) {
            CHECK.due("without a format " + what, none.status(0, 0, what), -1);
        }
        int[][] corners = {{0, 0}, {0, 255}, {255, 0}, {255, 255}};
        for (int[] c : corners) {
            ClickingDisk disk = disk(1, "sum xor;");
            for (int what = 0; what < 3; what++) {
                CHECK.due("nothing there", disk.status(c[0], c[1], what), 0);
            }
            put(disk, 8, row(c[0], c[1], 9, 0, c[0] ^ c[1] ^ 9), row(c[0], c[1], 9, 1, 0));
            int[] due = {1, 2, 1};
            for (int what = 0; what < 3; what++) {
                CHECK.due("what " + what + " of " + c[0] + " " + c[1], disk.status(c[0], c[1], what), due[what]);
            }
            for (int what : new int[] {-1, 3, Integer.MIN_VALUE, Integer.MAX_VALUE}) {
                CHECK.due("what " + what, disk.status(c[0], c[1], what), -1);
            }
            for (int off : new int[] {-1, 256, Integer.MIN_VALUE, Integer.MAX_VALUE}) {
                for (int what = 0; what < 3; what++) {
                    CHECK.due("track " + off, disk.status(off, c[1], what), -1);
                    CHECK.due("sector " + off, disk.status(c[0], off, what), -1);
                }
            }
        }
    }

    private static void value() {
        CHECK.says("Byte i of data by VOTES, and 256 more if it is SURE; NONE if there is no COPY, or none such.");
        CHECK.due("without a format", new ClickingDisk().value(0, 0, 0), -1);
        for (int n = 1; n <= 8; n++) {
            ClickingDisk disk = disk(n, "sum add;");
            int[] bytes = new int[4 + n];
            bytes[0] = 255;
            bytes[1] = 255;
            for (int i = 0; i < n; i++) {
                bytes[2 + i] = 100 + i;
            }
            CHECK.due("no copy", disk.value(255, 255, 0), -1);
            put(disk, 1, bytes);
            for (int i = 0; i < n; i++) {
                CHECK.due("byte " + i + " of " + n, disk.value(255, 255, i), 256 + 100 + i);
            }
            for (int i : new int[] {-2, -1, n, n + 1, 8, Integer.MIN_VALUE, Integer.MAX_VALUE}) {
                CHECK.due("byte " + i + " of " + n, disk.value(255, 255, i), -1);
            }
            int[][] others = {{255, 254}, {254, 255}, {256, 255}, {255, 256}, {-1, -1}, {Integer.MIN_VALUE, 255}, {255, Integer.MAX_VALUE}};
            for (int[] other : others) {
                CHECK.due("no copy of " + other[0] + " " + other[1], disk.value(other[0], other[1], 0), -1);
            }
        }
    }
}
