/** Terms, part 5, and promises 20 and 21: each sentence that names a bound, at the last value taken and the first not. */
public final class EdgeHopeTest {
    private static final int MARK = 0x448a;
    private static final String FORMAT = "cell 16;mark 68 138;data 1;sum xor;";
    private static final Check CHECK = new Check("EdgeHopeTest");

    public static void main(String[] args) {
        cutOfHundred();
        fiftyWithout();
        lessTen();
        greatestHope();
        mostClusters();
        trackOfLikeOnes();
        chainsAlone();
        allSixTracks();
        hope();
        ask();
        CHECK.close();
    }

    /** A read of sectors of track 7, of which the first ones are right. */
    private static void put(ClickingDisk disk, int drive, int all, int right) {
        StringBuilder bits = new StringBuilder();
        for (int i = 0; i < all; i++) {
            bits.append("1").append(Signals.sparse(MARK, 7, i, 9, i < right ? 0 : 1, 7 ^ i ^ 9));
        }
        Signals.read(disk, drive, 16, bits.toString());
    }

    private static void sector(ClickingDisk disk, int cluster, int value, int off) {
        int track = cluster / 4;
        int number = cluster % 4;
        Signals.read(disk, 0, 16, Signals.raw(MARK, track, number, value, 0, track ^ number ^ value ^ off));
    }

    private static void cutOfHundred() {
        CHECK.says("HOPE of a DRIVE: 100 times its RIGHT SECTORS by all its SECTORS in its READS (cut),");
        for (int all = 1; all <= 8; all++) {
            for (int right = 0; right <= all; right++) {
                ClickingDisk disk = Signals.disk(FORMAT);
                put(disk, 3, all, right);
                CHECK.due(right + " of " + all, disk.hope(3), 100 * right / all - 10);
                CHECK.due("another drive", disk.hope(2), 50);
            }
        }
        ClickingDisk disk = Signals.disk(FORMAT);
        put(disk, 0, 8, 8);
        put(disk, 0, 8, 7);
        put(disk, 1, 8, 0);
        CHECK.due("15 of 16 in two reads", disk.hope(0), 93 - 20);
        CHECK.due("none of 8", disk.hope(1), -10);
    }

    private static void fiftyWithout() {
        CHECK.says("50 without;");
        ClickingDisk disk = Signals.disk(FORMAT);
        for (int drive = 0; drive < 4; drive++) {
            CHECK.due("no reads", disk.hope(drive), 50);
            disk.read(drive);
            CHECK.due("a read without sectors", disk.hope(drive), 40);
        }
        put(disk, 0, 1, 0);
        CHECK.due("one sector that is wrong", disk.hope(0), -20);
        put(disk, 1, 1, 1);
        CHECK.due("one sector that is right", disk.hope(1), 80);
    }

    private static void lessTen() {
        CHECK.says("less 10 for each of its READS.");
        ClickingDisk none = Signals.disk(FORMAT);
        ClickingDisk right = Signals.disk(FORMAT);
        ClickingDisk wrong = Signals.disk(FORMAT);
        for (int i = 1; i <= 10; i++) {
            none.read(2);
            put(right, 2, 1, 1);
            put(wrong, 2, 1, 0);
            CHECK.due("without sectors " + i, none.hope(2), 50 - 10 * i);
            CHECK.due("right ones " + i, right.hope(2), 100 - 10 * i);
            CHECK.due("wrong ones " + i, wrong.hope(2), -10 * i);
        }
        CHECK.due("an eleventh", none.read(2), -1);
        CHECK.due("changes nothing", none.hope(2), -50);
    }

    /** All ways to spread up to ten reads of nothing over four drives. */
    private static void greatestHope() {
        CHECK.says("NEXT is the DRIVE with the greatest HOPE, of like ones the least;");
        for (int a = 0; a <= 3; a++) {
            for (int b = 0; b <= 3; b++) {
                for (int c = 0; c <= 2; c++) {
                    for (int d = 0; d <= 2; d++) {
                        int[] reads = {a, b, c, d};
                        ClickingDisk disk = Signals.disk(FORMAT);
                        int best = 0;
                        for (int drive = 0; drive < 4; drive++) {
                            for (int i = 0; i < reads[drive]; i++) {
                                disk.read(drive);
                            }
                            best = reads[drive] < reads[best] ? drive : best;
                        }
                        CHECK.due("reads " + a + " " + b + " " + c + " " + d, disk.ask(0), best);
                    }
                }
            }
        }
        ClickingDisk below = Signals.disk(FORMAT);
        for (int drive = 0; drive < 4; drive++) {
            put(below, drive, 8, 0);
            put(below, drive, 8, drive == 3 ? 1 : 0);
        }
        CHECK.due("the greatest is below 0", below.hope(3), 6 - 20);
        CHECK.due("and is taken", below.ask(0), 3);
    }

    private static void mostClusters() {
        CHECK.says("and the TRACK (0 .. 5) with the most CLUSTERS that are not RIGHT or MENDED,");
        for (int track = 0; track < 6; track++) {
            ClickingDisk disk = Signals.disk(FORMAT);
            disk.file(4 * track + 3, 1);
            CHECK.due("one in track " + track, disk.ask(1), track);
            int other = (track + 1) % 6;
            disk.file(4 * other, 1);
            disk.file(4 * other + 1, 1);
            CHECK.due("two in track " + other, disk.ask(1), other);
            sector(disk, 4 * other, 9, 0);
            sector(disk, 4 * other + 1, 9, 0);
            CHECK.due("both are right", disk.ask(1), track);
        }
        // values of cluster 12 and how far their sums are off, by status: none, right, strife, mended (9 of 9 and 7), open
        int[][] states = {{}, {9, 0}, {9, 0, 8, 0}, {9, 1, 7, 14}, {9, 1}};
        for (int status = 0; status < 5; status++) {
            ClickingDisk disk = Signals.disk(FORMAT);
            disk.file(12, 1);
            for (int i = 0; i < states[status].length; i += 2) {
                sector(disk, 12, states[status][i], states[status][i + 1]);
            }
            CHECK.due("the status", disk.status(3, 0, 0), status);
            CHECK.due("track by status " + status, disk.ask(1), status == 1 || status == 3 ? 0 : 3);
        }
    }

    private static void trackOfLikeOnes() {
        CHECK.says("of like ones the least.");
        ClickingDisk disk = Signals.disk(FORMAT);
        CHECK.due("no files, none in any", disk.ask(1), 0);
        for (int track = 5; track >= 0; track--) {
            disk.file(4 * track, 1);
            CHECK.due("one in each from " + track + " on", disk.ask(1), track);
        }
        for (int track = 0; track < 6; track++) {
            CHECK.due("like ones from " + track + " on", disk.ask(1), track);
            sector(disk, 4 * track, 9, 0);
        }
        CHECK.due("none is left", disk.ask(1), 0);
    }

    private static void chainsAlone() {
        CHECK.says("counting those alone that are in the CHAIN of some FILE by JOINED");
        ClickingDisk disk = Signals.disk(FORMAT);
        for (int c = 0; c < 8; c++) {
            disk.tell(0, c, 26);
            disk.tell(1, c, 26);
        }
        disk.file(20, 3);
        CHECK.due("others do not count", disk.ask(1), 5);
        disk.tell(0, 20, 21);
        disk.tell(1, 20, 16);
        disk.tell(0, 16, 25);
        disk.tell(1, 16, 17);
        disk.tell(0, 17, 25);
        disk.tell(1, 17, 24);
        CHECK.due("joined has the chain of the second", disk.chain(2, 0, -1), 3);
        CHECK.due("two in track 4, one in 5", disk.ask(1), 4);
        for (int i = 0; i < 5; i++) {
            disk.file(21, 1);
        }
        CHECK.due("one in five chains is one", disk.ask(1), 4);
    }

    private static void allSixTracks() {
        CHECK.says("(all six TRACKS' if it can't be JOINED),");
        ClickingDisk disk = Signals.disk(FORMAT);
        disk.file(23, 1);
        for (int c = 0; c < 12; c++) {
            disk.tell(0, c, 26);
        }
        CHECK.due("unlike in 12: the chain alone", disk.ask(1), 5);
        disk.tell(0, 12, 26);
        CHECK.due("unlike in 13: all", disk.ask(1), 0);
        for (int track = 0; track < 6; track++) {
            CHECK.due("four are in " + track, disk.ask(1), track);
            sector(disk, 4 * track + 3, 9, 0);
        }
        CHECK.due("three are in each", disk.ask(1), 0);
        disk.tell(1, 12, 26);
        CHECK.due("joined again: none", disk.ask(1), 0);
        disk.file(22, 1);
        CHECK.due("joined again: one", disk.ask(1), 5);
    }

    private static void hope() {
        CHECK.says("HOPE of a DRIVE; -999 if there is none such, or no FORMAT.");
        ClickingDisk none = new ClickingDisk();
        ClickingDisk disk = Signals.disk(FORMAT);
        for (int drive : new int[] {-1, 4, 5, Integer.MIN_VALUE, Integer.MAX_VALUE}) {
            CHECK.due("drive " + drive, disk.hope(drive), -999);
            CHECK.due("without a format, drive " + drive, none.hope(drive), -999);
        }
        for (int drive = 0; drive < 4; drive++) {
            CHECK.due("drive " + drive, disk.hope(drive), 50);
            CHECK.due("without a format, drive " + drive, none.hope(drive), -999);
        }
    }

    private static void ask() {
        CHECK.says("NEXT: the DRIVE (0), the TRACK (1); NONE for others, or without a FORMAT.");
        ClickingDisk none = new ClickingDisk();
        ClickingDisk disk = Signals.disk(FORMAT);
        disk.read(0);
        disk.file(8, 1);
        CHECK.due("the drive", disk.ask(0), 1);
        CHECK.due("the track", disk.ask(1), 2);
        CHECK.due("no drive without a format", none.ask(0), -1);
        CHECK.due("no track without a format", none.ask(1), -1);
        for (int what : new int[] {-1, 2, 3, Integer.MIN_VALUE, Integer.MAX_VALUE}) {
            CHECK.due("what " + what, disk.ask(what), -1);
            CHECK.due("without a format " + what, none.ask(what), -1);
        }
    }
}
