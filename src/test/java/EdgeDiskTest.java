/** Terms, part 4, and promises 14 to 19: each sentence that names a bound, at the last value taken and the first not. */
public final class EdgeDiskTest {
    private static final int[] FAR = {Integer.MIN_VALUE, Integer.MAX_VALUE};
    private static final Check CHECK = new Check("EdgeDiskTest");

    public static void main(String[] args) {
        clusters();
        files();
        chainsThatEnd();
        chainsThatComeBack();
        lengthMishaps();
        endMishaps();
        sharedMishaps();
        lostMishaps();
        mostMishaps();
        joinedByFewest();
        joinedByFirst();
        joinedByLeastBits();
        unlikeInTwelve();
        sectorsOfClusters();
        gapsByStatus();
        tell();
        file();
        mishaps();
        next();
        chain();
        gaps();
        CHECK.close();
    }

    private static void both(ClickingDisk disk, int cluster, int next) {
        disk.tell(0, cluster, next);
        disk.tell(1, cluster, next);
    }

    private static void clusters() {
        CHECK.says("A DISK has 24 CLUSTERS; two CATALOGUES tell for each: 0 .. 23 the next one, 24 the END, 25 FREE (at first), 26 BAD.");
        ClickingDisk disk = new ClickingDisk();
        for (int catalogue = 0; catalogue <= 2; catalogue++) {
            for (int c = 0; c < 24; c++) {
                CHECK.due("free at first " + c, disk.next(catalogue, c), 25);
            }
            CHECK.due("no cluster -1", disk.next(catalogue, -1), -1);
            CHECK.due("no cluster 24", disk.next(catalogue, 24), -1);
        }
        for (int told = 0; told <= 26; told++) {
            CHECK.due("tell " + told, disk.tell(0, 0, told), true);
            CHECK.due("told " + told, disk.next(0, 0), told);
            CHECK.due("not by the other", disk.next(1, 0), 25);
        }
        CHECK.due("tell -1", disk.tell(0, 0, -1), false);
        CHECK.due("tell 27", disk.tell(0, 0, 27), false);
        CHECK.due("26 stays", disk.next(0, 0), 26);
    }

    private static void files() {
        CHECK.says("FILES (at most 6, numbers as they come) have a first CLUSTER and a length (1 .. 24).");
        ClickingDisk disk = new ClickingDisk();
        int[][] rows = {{0, 1}, {23, 24}, {0, 24}, {23, 1}, {0, 1}, {11, 12}};
        for (int i = 0; i < 6; i++) {
            CHECK.due("length 0", disk.file(rows[i][0], 0), -1);
            CHECK.due("length 25", disk.file(rows[i][0], 25), -1);
            CHECK.due("first -1", disk.file(-1, rows[i][1]), -1);
            CHECK.due("first 24", disk.file(24, rows[i][1]), -1);
            CHECK.due("so many yet", disk.count(5), i);
            CHECK.due("file " + i, disk.file(rows[i][0], rows[i][1]), i);
            CHECK.due("its first", disk.chain(0, i, 0), rows[i][0]);
        }
        CHECK.due("a seventh", disk.file(0, 1), -1);
        CHECK.due("six stay", disk.count(5), 6);
        CHECK.due("no file 6", disk.chain(0, 6, -1), -1);
    }

    private static void chainsThatEnd() {
        CHECK.says("The CHAIN of a FILE: its first CLUSTER, the next one, and so on, as long as that is a CLUSTER");
        for (int told = 24; told <= 26; told++) {
            ClickingDisk disk = new ClickingDisk();
            disk.file(23, 1);
            disk.tell(0, 23, told);
            CHECK.due("one by " + told, disk.chain(0, 0, -1), 1);
            disk.tell(0, 23, 0);
            disk.tell(0, 0, told);
            CHECK.due("two by " + told, disk.chain(0, 0, -1), 2);
            CHECK.due("the second is 0", disk.chain(0, 0, 1), 0);
            for (int c = 0; c < 23; c++) {
                disk.tell(0, c, c == 22 ? told : c + 1);
            }
            CHECK.due("all by " + told, disk.chain(0, 0, -1), 24);
            CHECK.due("the last of all", disk.chain(0, 0, 23), 22);
            CHECK.due("none behind", disk.chain(0, 0, 24), -1);
        }
    }

    private static void chainsThatComeBack() {
        CHECK.says("that isn't in it already.");
        ClickingDisk disk = new ClickingDisk();
        disk.file(0, 24);
        for (int length = 1; length <= 24; length++) {
            if (length > 1) {
                disk.tell(0, length - 2, length - 1);
            }
            disk.tell(0, length - 1, length - 1);
            CHECK.due("back to itself behind " + length, disk.chain(0, 0, -1), length);
            disk.tell(0, length - 1, 0);
            CHECK.due("back to the first behind " + length, disk.chain(0, 0, -1), length);
        }
        CHECK.due("the last", disk.chain(0, 0, 23), 23);
        CHECK.due("a ring of 24 has no END", disk.mishaps(0), 1);
    }

    private static void lengthMishaps() {
        CHECK.says("MISHAPS by a CATALOGUE: 1 for each FILE whose CHAIN is not as long as told;");
        for (int size = 1; size <= 24; size++) {
            for (int length = 1; length <= 24; length++) {
                ClickingDisk disk = new ClickingDisk();
                disk.file(0, length);
                for (int c = 0; c < size; c++) {
                    disk.tell(0, c, c == size - 1 ? 24 : c + 1);
                }
                CHECK.due(size + " for " + length, disk.mishaps(0), size == length ? 0 : 1);
            }
        }
    }

    private static void endMishaps() {
        CHECK.says("1 for each whose CHAIN's last one does not tell the END;");
        for (int told = 0; told <= 26; told++) {
            ClickingDisk disk = new ClickingDisk();
            disk.file(5, 2);
            disk.tell(0, 5, 7);
            disk.tell(0, 7, told);
            boolean longer = told < 24 && told != 5 && told != 7;
            CHECK.due("the last tells " + told, disk.mishaps(0), told == 24 ? 0 : longer ? 2 : 1);
        }
        ClickingDisk free = new ClickingDisk();
        for (int i = 0; i < 6; i++) {
            free.file(i, 1);
            CHECK.due("free ones are no END " + i, free.mishaps(2), i + 1);
        }
    }

    private static void sharedMishaps() {
        CHECK.says("for each CLUSTER that is in CHAINS of n FILES, n above 1: n - 1;");
        ClickingDisk disk = new ClickingDisk();
        disk.tell(0, 23, 24);
        for (int n = 1; n <= 6; n++) {
            disk.file(23, 1);
            CHECK.due("in " + n, disk.mishaps(0), n - 1);
        }
        ClickingDisk two = new ClickingDisk();
        two.tell(0, 0, 2);
        two.tell(0, 1, 2);
        two.tell(0, 2, 3);
        two.tell(0, 3, 24);
        two.file(0, 3);
        two.file(1, 3);
        CHECK.due("two clusters in two", two.mishaps(0), 2);
        two.file(3, 1);
        CHECK.due("one of them in three", two.mishaps(0), 3);
    }

    private static void lostMishaps() {
        CHECK.says("and 1 for each CLUSTER that is in none, but neither FREE nor BAD.");
        for (int told = 0; told <= 26; told++) {
            for (int c = 0; c < 24; c += 23) {
                ClickingDisk disk = new ClickingDisk();
                disk.tell(1, c, told);
                CHECK.due("lost " + c + " tells " + told, disk.mishaps(1), told <= 24 ? 1 : 0);
                CHECK.due("the first has none", disk.mishaps(0), 0);
            }
        }
        ClickingDisk all = new ClickingDisk();
        for (int c = 0; c < 24; c++) {
            all.tell(0, c, 24);
            CHECK.due("so many are lost", all.mishaps(0), c + 1);
        }
        all.file(0, 1);
        CHECK.due("one is not", all.mishaps(0), 23);
    }

    /** Six files go through all 24 clusters of a ring: six lengths, six ENDs and 24 times five. */
    private static void mostMishaps() {
        CHECK.says("for each CLUSTER that is in CHAINS of n FILES, n above 1: n - 1;");
        ClickingDisk disk = new ClickingDisk();
        for (int c = 0; c < 24; c++) {
            both(disk, c, (c + 1) % 24);
        }
        for (int f = 0; f < 6; f++) {
            disk.file(4 * f, 1);
        }
        for (int catalogue = 0; catalogue <= 2; catalogue++) {
            CHECK.due("the most", disk.mishaps(catalogue), 6 + 6 + 24 * 5);
        }
    }

    /** Each of 12 clusters is right by the first or by the second, in all ways. */
    private static void joinedByFewest() {
        CHECK.says("JOINED: the CATALOGUE that takes, where both are unlike, from the first or the second for each CLUSTER by itself, with the fewest MISHAPS,");
        for (int ways = 0; ways < 4096; ways += 91) {
            ClickingDisk disk = new ClickingDisk();
            disk.file(0, 12);
            for (int c = 0; c < 12; c++) {
                int bad = ways >> c & 1;
                disk.tell(1 - bad, c, c == 11 ? 24 : c + 1);
                disk.tell(bad, c, 25);
            }
            CHECK.due("no mishaps by " + ways, disk.mishaps(2), 0);
            for (int c = 0; c < 12; c++) {
                CHECK.due("cluster " + c, disk.next(2, c), c == 11 ? 24 : c + 1);
            }
            CHECK.due("the chain", disk.chain(2, 0, -1), 12);
            CHECK.due("where both are alike", disk.next(2, 12), 25);
        }
    }

    private static void joinedByFirst() {
        CHECK.says("of like ones with the fewest from the second,");
        ClickingDisk disk = new ClickingDisk();
        for (int c = 0; c < 12; c++) {
            disk.tell(0, 2 * c, 26);
        }
        for (int c = 0; c < 24; c++) {
            CHECK.due("all from the first " + c, disk.next(2, c), disk.next(0, c));
        }
        // 0 has the END by the second alone; 4 is lost by both
        disk.file(0, 1);
        disk.tell(0, 0, 0);
        disk.tell(1, 0, 24);
        disk.tell(0, 4, 24);
        disk.tell(1, 4, 23);
        CHECK.due("one mishap is left", disk.mishaps(2), 1);
        CHECK.due("what must be is from the second", disk.next(2, 0), 24);
        CHECK.due("and no more", disk.next(2, 4), 24);
        both(disk, 23, 24);
        CHECK.due("4 and 23 are lost", disk.mishaps(2), 2);
        disk.file(4, 2);
        CHECK.due("a file more: 4 goes on to 23", disk.next(2, 4), 23);
    }

    /**
     * A file of two goes from x to m: m has the END by the second alone, t behind it too. To take m leaves t lost, to take
     * t makes the file too long: one mishap and one cluster from the second either way.
     */
    private static void joinedByLeastBits() {
        CHECK.says("then the least bits of these");
        for (int x = 0; x < 24; x += 5) {
            for (int m = 0; m < 24; m++) {
                for (int t = 0; t < 24; t++) {
                    if (m == t || m == x || t == x) {
                        continue;
                    }
                    ClickingDisk disk = new ClickingDisk();
                    disk.file(x, 2);
                    both(disk, x, m);
                    disk.tell(0, m, t);
                    disk.tell(1, m, 24);
                    disk.tell(0, t, x);
                    disk.tell(1, t, 24);
                    String of = x + " " + m + " " + t;
                    CHECK.due("one mishap " + of, disk.mishaps(2), 1);
                    CHECK.due("the lower one is from the second " + of, disk.next(2, Math.min(m, t)), 24);
                    CHECK.due("the higher one is not " + of, disk.next(2, Math.max(m, t)), m < t ? x : t);
                }
            }
        }
    }

    private static void unlikeInTwelve() {
        CHECK.says("(if they are unlike in at most 12).");
        ClickingDisk disk = Signals.disk("cell 20;mark 68 138;data 1;sum add;");
        disk.file(23, 1);
        for (int unlike = 0; unlike <= 24; unlike++) {
            boolean can = unlike <= 12;
            CHECK.due("mishaps by " + unlike, disk.mishaps(2) >= 0, can);
            CHECK.due("next by " + unlike, disk.next(2, 23), can ? 25 : -1);
            CHECK.due("chain by " + unlike, disk.chain(2, 0, -1), can ? 1 : -1);
            CHECK.due("gaps by " + unlike, disk.gaps(0), can ? 1 : -1);
            CHECK.due("track by " + unlike, disk.ask(1), can ? 5 : 0);
            CHECK.due("the first is there by " + unlike, disk.next(0, 23), unlike == 24 ? 26 : 25);
            if (unlike < 24) {
                disk.tell(0, unlike, 26);
            }
        }
        for (int c = 23; c > 12; c--) {
            disk.tell(1, c, 26);
            CHECK.due("still more than 12", disk.mishaps(2), -1);
        }
        disk.tell(1, 12, 26);
        CHECK.due("12 again", disk.mishaps(2), 1);
    }

    private static void sectorsOfClusters() {
        CHECK.says("CLUSTER c is the SECTOR number c mod 4 of TRACK c / 4.");
        for (int c = 0; c < 24; c++) {
            ClickingDisk disk = Signals.disk("cell 16;mark 68 138;data 1;sum xor;");
            int track = c / 4;
            int number = c % 4;
            Signals.read(disk, 0, 16, Signals.raw(0x448a, track, number, 0, 0, track ^ number));
            disk.file(c, 1);
            disk.file((c + 1) % 24, 1);
            disk.file((c + 23) % 24, 1);
            CHECK.due("cluster " + c, disk.gaps(0), 0);
            CHECK.due("the one behind", disk.gaps(1), 1);
            CHECK.due("the one ahead", disk.gaps(2), 1);
        }
    }

    /** The status of clusters 0 to 4 is what their number is. */
    private static ClickingDisk fiveStatuses() {
        ClickingDisk disk = Signals.disk("cell 16;mark 68 138;data 1;sum add;");
        int[][] rows = {{0, 1, 9, 0, 10}, {0, 2, 9, 0, 11}, {0, 2, 8, 0, 10}, {0, 3, 9, 0, 11}, {0, 3, 8, 0, 13}, {1, 0, 9, 0, 0}};
        for (int[] bytes : rows) {
            Signals.read(disk, 0, 16, Signals.raw(0x448a, bytes));
        }
        for (int c = 0; c < 5; c++) {
            CHECK.due("status " + c, disk.status(c / 4, c % 4, 0), c);
        }
        return disk;
    }

    private static void gapsByStatus() {
        CHECK.says("A FILE's GAPS are the CLUSTERS of its CHAIN by JOINED whose STATUS isn't RIGHT or MENDED.");
        ClickingDisk disk = fiveStatuses();
        for (int c = 0; c < 5; c++) {
            disk.file(c, 1);
            CHECK.due("status " + c, disk.gaps(c), c == 1 || c == 3 ? 0 : 1);
        }
        for (int c = 0; c < 24; c++) {
            both(disk, c, (c + 1) % 24);
        }
        CHECK.due("all but two of 24", disk.gaps(0), 22);
        disk.tell(0, 4, 24);
        CHECK.due("joined takes the first", disk.gaps(0), 3);
        disk.tell(0, 4, 5);
        disk.tell(1, 4, 24);
        CHECK.due("joined takes the second", disk.gaps(0), 3);
    }

    private static void tell() {
        CHECK.says("A CATALOGUE (0, 1) tells of a CLUSTER: true; false if there are none such, or it can't be (0 .. 26).");
        ClickingDisk disk = new ClickingDisk();
        int[][] good = {{0, 0, 0}, {1, 23, 26}, {0, 23, 0}, {1, 0, 26}, {0, 0, 25}, {1, 23, 24}};
        for (int[] row : good) {
            CHECK.due("tell", disk.tell(row[0], row[1], row[2]), true);
            CHECK.due("told", disk.next(row[0], row[1]), row[2]);
        }
        int[][] off = {{-1, 0, 0}, {2, 0, 0}, {3, 0, 0}, {0, -1, 0}, {0, 24, 0}, {1, -1, 0}, {1, 24, 0}, {0, 0, -1}, {0, 0, 27},
            {1, 0, -1}, {1, 0, 27}, {-1, -1, -1}};
        for (int[] row : off) {
            CHECK.due("tell " + row[0] + " " + row[1] + " " + row[2], disk.tell(row[0], row[1], row[2]), false);
        }
        for (int far : FAR) {
            CHECK.due("catalogue " + far, disk.tell(far, 0, 0), false);
            CHECK.due("cluster " + far, disk.tell(0, far, 0), false);
            CHECK.due("what is told " + far, disk.tell(0, 0, far), false);
        }
        CHECK.due("what was told stays", disk.next(0, 0), 25);
        CHECK.due("what the second told stays", disk.next(1, 0), 26);
    }

    private static void file() {
        CHECK.says("A FILE: its number; NONE if it can't be, or 6 came.");
        ClickingDisk disk = new ClickingDisk();
        int[][] off = {{-1, 1}, {24, 1}, {0, 0}, {0, 25}, {0, -1}, {23, 0}, {23, 25}, {25, 24}};
        for (int[] row : off) {
            CHECK.due("file " + row[0] + " " + row[1], disk.file(row[0], row[1]), -1);
        }
        for (int far : FAR) {
            CHECK.due("first " + far, disk.file(far, 1), -1);
            CHECK.due("length " + far, disk.file(0, far), -1);
        }
        CHECK.due("none came", disk.count(5), 0);
        for (int i = 0; i < 6; i++) {
            CHECK.due("file " + i, disk.file(23 - i, i == 0 ? 24 : i), i);
        }
        for (int i = 0; i < 3; i++) {
            CHECK.due("6 came", disk.file(i, 1), -1);
        }
        CHECK.due("six are there", disk.count(5), 6);
    }

    private static void mishaps() {
        CHECK.says("MISHAPS of a CATALOGUE (0, 1) or JOINED (2); NONE if there is none such, or it can't be JOINED.");
        ClickingDisk disk = new ClickingDisk();
        for (int catalogue = 0; catalogue <= 2; catalogue++) {
            CHECK.due("none by " + catalogue, disk.mishaps(catalogue), 0);
        }
        CHECK.due("catalogue -1", disk.mishaps(-1), -1);
        CHECK.due("catalogue 3", disk.mishaps(3), -1);
        for (int far : FAR) {
            CHECK.due("catalogue " + far, disk.mishaps(far), -1);
        }
        for (int c = 0; c < 13; c++) {
            disk.tell(0, c, 24);
            CHECK.due("joined by " + (c + 1), disk.mishaps(2), c < 12 ? 0 : -1);
        }
        CHECK.due("the first", disk.mishaps(0), 13);
        CHECK.due("the second", disk.mishaps(1), 0);
    }

    private static void next() {
        CHECK.says("What a CATALOGUE (0, 1) or JOINED (2) tells of a CLUSTER; NONE likewise.");
        ClickingDisk disk = new ClickingDisk();
        for (int c = 0; c < 13; c++) {
            disk.tell(1, c, c + 10);
            CHECK.due("the second " + c, disk.next(1, c), c + 10);
            CHECK.due("the first " + c, disk.next(0, c), 25);
            CHECK.due("joined " + c, disk.next(2, c), c < 12 ? 25 : -1);
            CHECK.due("joined of one that is alike", disk.next(2, 23), c < 12 ? 25 : -1);
        }
        for (int catalogue : new int[] {-1, 3, Integer.MIN_VALUE, Integer.MAX_VALUE}) {
            CHECK.due("catalogue " + catalogue, disk.next(catalogue, 0), -1);
        }
        for (int cluster : new int[] {-1, 24, Integer.MIN_VALUE, Integer.MAX_VALUE}) {
            CHECK.due("cluster " + cluster, disk.next(0, cluster), -1);
            CHECK.due("cluster " + cluster + " of the second", disk.next(1, cluster), -1);
        }
    }

    private static void chain() {
        CHECK.says("The CHAIN of a FILE by a CATALOGUE (0, 1) or JOINED (2): how many (k NONE), or the k-th; NONE likewise.");
        ClickingDisk disk = new ClickingDisk();
        CHECK.due("no file yet", disk.chain(0, 0, -1), -1);
        for (int f = 0; f < 6; f++) {
            disk.file(f, 1);
            both(disk, f, 23);
            for (int catalogue = 0; catalogue <= 2; catalogue++) {
                CHECK.due("how many", disk.chain(catalogue, f, -1), 2);
                CHECK.due("the first", disk.chain(catalogue, f, 0), f);
                CHECK.due("the last", disk.chain(catalogue, f, 1), 23);
                CHECK.due("behind", disk.chain(catalogue, f, 2), -1);
                CHECK.due("ahead", disk.chain(catalogue, f, -2), -1);
                CHECK.due("no such file", disk.chain(catalogue, f + 1, -1), -1);
                CHECK.due("file -1", disk.chain(catalogue, -1, -1), -1);
            }
            CHECK.due("catalogue 3", disk.chain(3, f, -1), -1);
            CHECK.due("catalogue -1", disk.chain(-1, f, -1), -1);
        }
        for (int far : FAR) {
            CHECK.due("k " + far, disk.chain(0, 0, far), -1);
            CHECK.due("file " + far, disk.chain(0, far, -1), -1);
            CHECK.due("catalogue " + far, disk.chain(far, 0, -1), -1);
        }
        for (int c = 6; c < 19; c++) {
            CHECK.due("joined by " + (c - 6), disk.chain(2, 5, 1), 23);
            disk.tell(0, c, 26);
        }
        CHECK.due("not joined by 13", disk.chain(2, 5, 1), -1);
        CHECK.due("nor how many", disk.chain(2, 5, -1), -1);
        CHECK.due("the first is there", disk.chain(0, 5, 1), 23);
    }

    private static void gaps() {
        CHECK.says("GAPS of a FILE; NONE if there is none such, no FORMAT, or it can't be JOINED.");
        ClickingDisk none = new ClickingDisk();
        none.file(0, 1);
        CHECK.due("no format", none.gaps(0), -1);
        Signals.text(none, "cell 16;mark 68 138;data 1;sum add;");
        none.format();
        CHECK.due("a format", none.gaps(0), 1);
        CHECK.due("no file 1", none.gaps(1), -1);
        CHECK.due("no file -1", none.gaps(-1), -1);
        for (int far : FAR) {
            CHECK.due("no file " + far, none.gaps(far), -1);
        }
        for (int f = 1; f < 6; f++) {
            none.file(f, 1);
            CHECK.due("file " + f, none.gaps(f), 1);
        }
        CHECK.due("no file 6", none.gaps(6), -1);
        for (int c = 0; c < 13; c++) {
            CHECK.due("unlike in " + c, none.gaps(5), 1);
            none.tell(0, c, 26);
        }
        CHECK.due("unlike in 13", none.gaps(5), -1);
    }
}
