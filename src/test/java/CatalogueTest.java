/** Promises 14 to 19: tell, file, mishaps, next, chain, gaps. */
public final class CatalogueTest {
    private static final Check CHECK = new Check("CatalogueTest");

    public static void main(String[] args) {
        tellAndNext();
        files();
        chains();
        mishaps();
        joined();
        joinedOrder();
        joinedLimit();
        gaps();
        CHECK.close();
    }

    private static void both(ClickingDisk disk, int cluster, int next) {
        disk.tell(0, cluster, next);
        disk.tell(1, cluster, next);
    }

    private static void tellAndNext() {
        ClickingDisk disk = new ClickingDisk();
        int[][] wrong = {{-1, 0, 0}, {2, 0, 0}, {0, -1, 0}, {0, 24, 0}, {0, 0, -1}, {0, 0, 27}, {Integer.MIN_VALUE, 0, 0},
            {0, Integer.MAX_VALUE, 0}, {1, 1, Integer.MIN_VALUE}, {1, 1, Integer.MAX_VALUE}};
        for (int[] row : wrong) {
            CHECK.due("tell " + row[0] + " " + row[1] + " " + row[2], disk.tell(row[0], row[1], row[2]), false);
        }
        for (int c = 0; c < 24; c++) {
            CHECK.due("free at first " + c, disk.next(0, c) + disk.next(1, c) + disk.next(2, c), 75);
        }
        CHECK.due("tell the first", disk.tell(0, 0, 26), true);
        CHECK.due("tell the second", disk.tell(1, 23, 0), true);
        CHECK.due("the first", disk.next(0, 0), 26);
        CHECK.due("the second is as it was", disk.next(1, 0), 25);
        CHECK.due("the second", disk.next(1, 23), 0);
        CHECK.due("the first is as it was", disk.next(0, 23), 25);
        CHECK.due("told again", disk.tell(0, 0, 24), true);
        CHECK.due("the new one", disk.next(0, 0), 24);
        int[][] none = {{-1, 0}, {3, 0}, {0, -1}, {0, 24}, {2, 24}, {2, -1}, {Integer.MAX_VALUE, 0}, {1, Integer.MIN_VALUE}};
        for (int[] row : none) {
            CHECK.due("next " + row[0] + " " + row[1], disk.next(row[0], row[1]), -1);
        }
    }

    private static void files() {
        ClickingDisk disk = new ClickingDisk();
        int[][] wrong = {{-1, 1}, {24, 1}, {0, 0}, {0, 25}, {0, -1}, {Integer.MIN_VALUE, 1}, {0, Integer.MAX_VALUE}};
        for (int[] row : wrong) {
            CHECK.due("file " + row[0] + " " + row[1], disk.file(row[0], row[1]), -1);
        }
        CHECK.due("none came", disk.count(5), 0);
        int[][] good = {{0, 1}, {23, 24}, {0, 1}, {5, 5}, {6, 6}, {7, 7}};
        for (int i = 0; i < 6; i++) {
            CHECK.due("file " + i, disk.file(good[i][0], good[i][1]), i);
        }
        CHECK.due("a seventh", disk.file(1, 1), -1);
        CHECK.due("six came", disk.count(5), 6);
        disk.file(9, 9);
        CHECK.due("the last is as it was", disk.chain(0, 5, 0), 7);
    }

    private static void chains() {
        ClickingDisk disk = new ClickingDisk();
        disk.file(3, 3);
        disk.file(8, 1);
        disk.tell(0, 3, 7);
        disk.tell(0, 7, 1);
        disk.tell(0, 1, 7);
        disk.tell(0, 8, 8);
        disk.tell(1, 3, 26);
        int[] due = {3, 7, 1};
        CHECK.due("until one comes again", disk.chain(0, 0, -1), 3);
        for (int k = 0; k < 3; k++) {
            CHECK.due("place " + k, disk.chain(0, 0, k), due[k]);
        }
        CHECK.due("none behind", disk.chain(0, 0, 3), -1);
        CHECK.due("none ahead", disk.chain(0, 0, -2), -1);
        CHECK.due("far away", disk.chain(0, 0, Integer.MAX_VALUE), -1);
        CHECK.due("one that tells itself", disk.chain(0, 1, -1), 1);
        CHECK.due("a bad one is in it", disk.chain(1, 0, -1), 1);
        CHECK.due("a free one is in it", disk.chain(1, 1, 0), 8);
        for (int file : new int[] {-1, 2, 6, Integer.MIN_VALUE, Integer.MAX_VALUE}) {
            CHECK.due("file " + file, disk.chain(0, file, -1), -1);
        }
        for (int catalogue : new int[] {-1, 3, Integer.MIN_VALUE, Integer.MAX_VALUE}) {
            CHECK.due("catalogue " + catalogue, disk.chain(catalogue, 0, -1), -1);
            CHECK.due("mishaps of " + catalogue, disk.mishaps(catalogue), -1);
        }
        for (int c = 0; c < 24; c++) {
            disk.tell(0, c, (c + 1) % 24);
        }
        CHECK.due("all of them", disk.chain(0, 0, -1), 24);
        CHECK.due("the last of all", disk.chain(0, 0, 23), 2);
    }

    private static void mishaps() {
        ClickingDisk disk = new ClickingDisk();
        CHECK.due("none", disk.mishaps(0), 0);
        disk.tell(0, 5, 6);
        disk.tell(0, 6, 24);
        disk.tell(0, 9, 26);
        CHECK.due("two lost ones", disk.mishaps(0), 2);
        CHECK.due("the second has none", disk.mishaps(1), 0);
        disk.file(5, 2);
        CHECK.due("a file has them", disk.mishaps(0), 0);
        CHECK.due("by the second it is short and has no end", disk.mishaps(1), 2);
        disk.file(6, 1);
        CHECK.due("one is in two", disk.mishaps(0), 1);
        disk.file(6, 1);
        CHECK.due("one is in three", disk.mishaps(0), 2);
        disk.file(6, 2);
        CHECK.due("one is in four, and one is too short", disk.mishaps(0), 4);
        disk.file(9, 1);
        CHECK.due("a bad one is no end", disk.mishaps(0), 5);
        disk.tell(0, 6, 5);
        // 5 6, 6 5 (thrice): 5 is in four, 6 in four: 6; lengths of two are wrong; five have no end
        CHECK.due("a ring", disk.mishaps(0), 3 + 3 + 2 + 5);
    }

    private static void joined() {
        ClickingDisk disk = new ClickingDisk();
        disk.file(0, 3);
        both(disk, 0, 1);
        disk.tell(0, 1, 2);
        disk.tell(1, 1, 5);
        both(disk, 2, 24);
        CHECK.due("the first is right", disk.next(2, 1), 2);
        CHECK.due("no mishaps", disk.mishaps(2), 0);
        disk.tell(0, 1, 5);
        disk.tell(1, 1, 2);
        CHECK.due("the second is right", disk.next(2, 1), 2);
        CHECK.due("no mishaps again", disk.mishaps(2), 0);
        disk.tell(0, 2, 9);
        CHECK.due("of both the right ones", disk.next(2, 2), 24);
        CHECK.due("the chain of both", disk.chain(2, 0, -1), 3);
        disk.tell(1, 2, 9);
        CHECK.due("neither is right", disk.mishaps(2), 2);
        disk.file(9, 1);
        // 0 1 5 has no end, 2 is lost, and 9 has no end
        CHECK.due("a file more changes it", disk.mishaps(2), 3);
    }

    /** Of like ones with the fewest from the second, then with the least bits. */
    private static void joinedOrder() {
        ClickingDisk disk = new ClickingDisk();
        disk.tell(0, 4, 26);
        disk.tell(1, 7, 26);
        CHECK.due("of like ones from the first", disk.next(2, 4), 26);
        CHECK.due("of like ones from the first again", disk.next(2, 7), 25);
        // two files go to 1, which is their END: by the second 0 or 10 would be one, and too short
        ClickingDisk ends = new ClickingDisk();
        ends.file(0, 2);
        ends.file(10, 2);
        both(ends, 1, 24);
        ends.tell(0, 0, 1);
        ends.tell(0, 10, 1);
        ends.tell(1, 0, 24);
        ends.tell(1, 10, 24);
        CHECK.due("one mishap by the first", ends.mishaps(0), 1);
        CHECK.due("two by the second, and one lost", ends.mishaps(1), 3);
        CHECK.due("joined is the first", ends.mishaps(2), 1);
        CHECK.due("cluster 0 is the first's", ends.next(2, 0), 1);
        CHECK.due("cluster 10 is the first's", ends.next(2, 10), 1);
        bitsOfTheSecond();
        leastBits();
        twoBitsEach();
    }

    private static void bitsOfTheSecond() {
        ClickingDisk disk = new ClickingDisk();
        disk.file(3, 2);
        disk.tell(0, 3, 3);
        disk.tell(1, 3, 8);
        disk.tell(0, 8, 3);
        disk.tell(1, 8, 24);
        CHECK.due("both bits are needed", disk.mishaps(2), 0);
        ClickingDisk lost = new ClickingDisk();
        lost.tell(0, 2, 24);
        lost.tell(0, 6, 24);
        CHECK.due("both lost ones are free by the second", lost.mishaps(2), 0);
        CHECK.due("cluster 2", lost.next(2, 2), 25);
        CHECK.due("cluster 6", lost.next(2, 6), 25);
    }

    /** The first: 0 1 2 is too long and has no end; 1 as the END: 2 is lost; 2 as the END: too long: one mishap either way. */
    private static void leastBits() {
        ClickingDisk disk = new ClickingDisk();
        disk.file(0, 2);
        both(disk, 0, 1);
        disk.tell(0, 1, 2);
        disk.tell(1, 1, 24);
        disk.tell(0, 2, 0);
        disk.tell(1, 2, 24);
        CHECK.due("one mishap is left", disk.mishaps(2), 1);
        CHECK.due("the lower bit is taken", disk.next(2, 1), 24);
        CHECK.due("the higher one is not", disk.next(2, 2), 0);
    }

    /** Two files with the same choice each: the least of four like pairs of bits has the lower ones of both. */
    private static void twoBitsEach() {
        ClickingDisk disk = new ClickingDisk();
        int[][] chains = {{0, 20, 9}, {4, 5, 6}};
        for (int[] c : chains) {
            disk.file(c[0], 2);
            both(disk, c[0], c[1]);
            disk.tell(0, c[1], c[2]);
            disk.tell(1, c[1], 24);
            disk.tell(0, c[2], c[0]);
            disk.tell(1, c[2], 24);
        }
        CHECK.due("one mishap for each", disk.mishaps(2), 2);
        CHECK.due("9 is below 20 and is taken", disk.next(2, 9), 24);
        CHECK.due("20 is not", disk.next(2, 20), 9);
        CHECK.due("5 is taken", disk.next(2, 5), 24);
        CHECK.due("6 is not", disk.next(2, 6), 4);
    }

    private static void joinedLimit() {
        ClickingDisk disk = Signals.disk("cell 20;mark 68 138;data 1;sum add;");
        disk.file(0, 1);
        for (int c = 0; c < 12; c++) {
            disk.tell(0, c, 24);
        }
        CHECK.due("twelve can be joined", disk.mishaps(2), 0);
        CHECK.due("by eleven of the second", disk.next(2, 11), 25);
        CHECK.due("and one of the first", disk.next(2, 0), 24);
        disk.tell(1, 12, 24);
        CHECK.due("thirteen can't", disk.mishaps(2), -1);
        CHECK.due("next", disk.next(2, 0), -1);
        CHECK.due("chain", disk.chain(2, 0, -1), -1);
        CHECK.due("gaps", disk.gaps(0), -1);
        CHECK.due("the first can be asked", disk.mishaps(0), 11);
        CHECK.due("the second too", disk.mishaps(1), 2);
        disk.tell(0, 12, 24);
        CHECK.due("twelve again", disk.mishaps(2), 1);
        for (int c = 0; c < 24; c++) {
            disk.tell(0, c, 24);
            disk.tell(1, c, 25);
        }
        CHECK.due("all are unlike", disk.mishaps(2), -1);
    }

    private static void gaps() {
        ClickingDisk disk = Signals.disk("cell 20;mark 68 138;data 1;sum add;");
        disk.file(1, 3);
        disk.file(23, 1);
        both(disk, 1, 6);
        both(disk, 6, 11);
        both(disk, 11, 24);
        CHECK.due("three gaps", disk.gaps(0), 3);
        Signals.read(disk, 0, 20, Signals.raw(0x448a, 1, 2, 9, 0, 12));
        CHECK.due("cluster 6 is track 1, sector 2", disk.gaps(0), 2);
        Signals.read(disk, 0, 20, Signals.raw(0x448a, 2, 3, 9, 0, 0));
        CHECK.due("open is a gap", disk.gaps(0), 2);
        Signals.read(disk, 0, 20, Signals.raw(0x448a, 2, 3, 8, 0, 14));
        CHECK.due("mended is none", disk.gaps(0), 1);
        Signals.read(disk, 0, 20, Signals.raw(0x448a, 1, 2, 8, 0, 11));
        CHECK.due("strife is a gap", disk.gaps(0), 2);
        CHECK.due("a free cluster is one", disk.gaps(1), 1);
        Signals.read(disk, 0, 20, Signals.raw(0x448a, 5, 3, 8, 0, 16));
        CHECK.due("cluster 23 is track 5, sector 3", disk.gaps(1), 0);
        disk.tell(1, 1, 24);
        CHECK.due("joined keeps the chain", disk.gaps(0), 2);
        for (int file : new int[] {-1, 2, 6, Integer.MIN_VALUE, Integer.MAX_VALUE}) {
            CHECK.due("gaps of file " + file, disk.gaps(file), -1);
        }
    }
}
