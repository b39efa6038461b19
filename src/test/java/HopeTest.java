/** Promises 20 and 21: hope, ask. */
public final class HopeTest {
    private static final int MARK = 0x448a;
    private static final Check CHECK = new Check("HopeTest");

    public static void main(String[] args) {
        hopes();
        drives();
        tracks();
        tracksWithoutJoined();
        CHECK.close();
    }

    private static ClickingDisk disk() {
        return Signals.disk("cell 16;mark 68 138;data 1;sum add;");
    }

    private static String sector(int track, int number, int value, int off) {
        int sum = track + number + value + off;
        return Signals.raw(MARK, track, number, value, sum >> 8, sum & 255);
    }

    private static void put(ClickingDisk disk, int drive, int track, int number) {
        Signals.read(disk, drive, 16, sector(track, number, 7, 0));
    }

    private static void hopes() {
        ClickingDisk disk = disk();
        for (int drive : new int[] {-1, 4, Integer.MIN_VALUE, Integer.MAX_VALUE}) {
            CHECK.due("drive " + drive, disk.hope(drive), -999);
        }
        CHECK.due("without reads", disk.hope(3), 50);
        disk.read(3);
        CHECK.due("a read without sectors", disk.hope(3), 40);
        Signals.read(disk, 3, 16, sector(0, 0, 1, 0) + sector(0, 1, 1, 0) + "1" + sector(0, 2, 1, 5));
        CHECK.due("two of three, cut, and two reads", disk.hope(3), 46);
        CHECK.due("another drive", disk.hope(2), 50);
        Signals.read(disk, 2, 16, sector(0, 2, 1, 5));
        CHECK.due("none of one", disk.hope(2), -10);
        for (int i = 0; i < 7; i++) {
            disk.read(0);
        }
        CHECK.due("seven reads of nothing", disk.hope(0), -20);
        CHECK.due("drive 3 is as it was", disk.hope(3), 46);
    }

    private static void drives() {
        ClickingDisk disk = disk();
        CHECK.due("of like ones the least", disk.ask(0), 0);
        disk.read(0);
        CHECK.due("the next one", disk.ask(0), 1);
        put(disk, 3, 0, 0);
        CHECK.due("the one that reads", disk.ask(0), 3);
        put(disk, 2, 0, 0);
        CHECK.due("of like ones that read the least", disk.ask(0), 2);
        for (int what : new int[] {-1, 2, Integer.MIN_VALUE, Integer.MAX_VALUE}) {
            CHECK.due("ask " + what, disk.ask(what), -1);
        }
    }

    private static void both(ClickingDisk disk, int cluster, int next) {
        disk.tell(0, cluster, next);
        disk.tell(1, cluster, next);
    }

    private static void tracks() {
        ClickingDisk disk = disk();
        CHECK.due("no files", disk.ask(1), 0);
        disk.file(4, 2);
        both(disk, 4, 9);
        both(disk, 9, 24);
        CHECK.due("one in track 1, one in 2", disk.ask(1), 1);
        disk.file(10, 1);
        CHECK.due("two in track 2", disk.ask(1), 2);
        disk.file(10, 1);
        put(disk, 0, 2, 2);
        CHECK.due("a cluster counts once, a right one does not", disk.ask(1), 1);
        put(disk, 0, 1, 0);
        CHECK.due("track 2 is left", disk.ask(1), 2);
        Signals.read(disk, 0, 16, sector(2, 1, 7, 1));
        CHECK.due("open is not enough", disk.ask(1), 2);
        Signals.read(disk, 0, 16, sector(2, 1, 8, 2));
        CHECK.due("it is mended", disk.status(2, 1, 0), 3);
        CHECK.due("none is left", disk.ask(1), 0);
        disk.file(23, 1);
        CHECK.due("the last track", disk.ask(1), 5);
        disk.tell(1, 23, 20);
        CHECK.due("joined takes the first", disk.ask(1), 5);
        Signals.read(disk, 0, 16, sector(1, 0, 99, 0));
        both(disk, 23, 24);
        put(disk, 0, 5, 3);
        CHECK.due("strife counts", disk.ask(1), 1);
    }

    private static void tracksWithoutJoined() {
        ClickingDisk disk = disk();
        disk.file(23, 1);
        for (int c = 0; c < 13; c++) {
            disk.tell(0, c, 24);
        }
        CHECK.due("all clusters count", disk.ask(1), 0);
        put(disk, 0, 0, 3);
        CHECK.due("track 1 has all four", disk.ask(1), 1);
        put(disk, 0, 1, 0);
        CHECK.due("track 2 has all four", disk.ask(1), 2);
        disk.tell(0, 12, 25);
        CHECK.due("joined again", disk.ask(1), 5);
    }
}
