/** Promises 6 to 9: flux, wipe, read, raw. */
public final class TapeTest {
    private static final Check CHECK = new Check("TapeTest");

    public static void main(String[] args) {
        fluxAndWipe();
        reads();
        rawByHand();
        rawEdges();
        CHECK.close();
    }

    private static void fluxAndWipe() {
        ClickingDisk disk = new ClickingDisk();
        CHECK.due("wipe of nothing", disk.wipe(), 0);
        CHECK.due("zeros are left out", disk.flux(0x00100020, 0, 0xff000000, 1, 0), 4);
        int[] raw = {16, 32, 255, 1};
        StringBuilder due = new StringBuilder();
        for (int step : raw) {
            int n = Math.max(1, Math.min(8, (step + 4) / 8));
            due.append("0".repeat(n - 1)).append('1');
        }
        CHECK.due("RAW bits of them", disk.raw(8, 0, -1), due.length());
        for (int k = 0; k < due.length(); k++) {
            CHECK.due("bit " + k, disk.raw(8, 0, k), due.charAt(k) - '0');
        }
        CHECK.due("wipe", disk.wipe(), 4);
        CHECK.due("it is empty", disk.count(4), 0);
        for (int i = 1; i <= 16; i++) {
            CHECK.due("flux " + i, disk.flux(-1, -1, -1, -1, -1), 20 * i);
        }
        CHECK.due("the most bits", disk.raw(8, 0, -1), 2560);
        CHECK.due("the last but one of them", disk.raw(8, 0, 2558), 0);
        CHECK.due("the last of them", disk.raw(8, 0, 2559), 1);
        CHECK.due("none behind the last", disk.raw(8, 0, 2560), -1);
        CHECK.due("one above 320", disk.flux(0, 0, 0, 0, 1), -1);
        CHECK.due("none at 320", disk.flux(0, 0, 0, 0, 0), 320);
        CHECK.due("all are there", disk.count(4), 320);
        CHECK.due("wipe of all", disk.wipe(), 320);
        Signals.tape(disk, new int[301]);
        CHECK.due("only zeros", disk.count(4), 0);
        int[] many = new int[301];
        java.util.Arrays.fill(many, 9);
        CHECK.due("301", Signals.tape(disk, many), 301);
        CHECK.due("20 more are too many", disk.flux(-1, -1, -1, -1, -1), -1);
        CHECK.due("19 more fit", disk.flux(-1, -1, -1, -1, 0x00ffffff), 320);
    }

    private static void reads() {
        ClickingDisk disk = new ClickingDisk();
        Signals.tape(disk, 20, 20);
        CHECK.due("no format", disk.read(0), -1);
        CHECK.due("the tape stays", disk.count(4), 2);
        disk = Signals.disk("cell 20;mark 68 138;data 2;sum add;");
        Signals.tape(disk, 20, 20);
        for (int drive : new int[] {-1, 4, 5, Integer.MIN_VALUE, Integer.MAX_VALUE}) {
            CHECK.due("no such drive " + drive, disk.read(drive), -1);
        }
        CHECK.due("the tape stays", disk.count(4), 2);
        CHECK.due("a read", disk.read(3), 0);
        CHECK.due("the tape is empty", disk.count(4), 0);
        for (int i = 1; i < 10; i++) {
            CHECK.due("a read of nothing", disk.read(i % 4), i);
        }
        Signals.tape(disk, 7);
        CHECK.due("an eleventh", disk.read(0), -1);
        CHECK.due("the tape stays with it", disk.count(4), 1);
        CHECK.due("ten reads", disk.count(3), 10);
    }

    private static void rawByHand() {
        ClickingDisk disk = new ClickingDisk();
        // c: 320, 320 + floor(-56 * 3 / 32) = 314, 314 + 5 = 319, 319 + 17 = 336; n: 2, 2, 13 brought to 8, 0 brought to 1
        Signals.tape(disk, 33, 47, 255, 1);
        String due = "0101000000011";
        CHECK.due("length", disk.raw(20, 3, -1), due.length());
        for (int k = 0; k < due.length(); k++) {
            CHECK.due("bit " + k, disk.raw(20, 3, k), due.charAt(k) - '0');
        }
        disk.wipe();
        Signals.tape(disk, 45);
        CHECK.due("45 of 30 is two cells", disk.raw(30, 0, -1), 2);
        disk.wipe();
        Signals.tape(disk, 44);
        CHECK.due("44 of 30 is one cell", disk.raw(30, 0, -1), 1);
        disk.wipe();
        clockFloors(disk);
    }

    /** 16 * 59 / 3 is 314, and floor(-6 / 32) is -1: c goes down to 314, where 148 is 8 cells; a cut would hold it at 320 and 7. */
    private static void clockFloors(ClickingDisk disk) {
        Signals.tape(disk, 59, 59, 59, 59, 59, 59, 148);
        CHECK.due("bits by floors", disk.raw(20, 1, -1), 6 * 3 + 8);
        CHECK.due("bits by no gain", disk.raw(20, 0, -1), 6 * 3 + 7);
        disk.wipe();
    }

    private static void rawEdges() {
        ClickingDisk disk = new ClickingDisk();
        CHECK.due("of nothing", disk.raw(20, 0, -1), 0);
        CHECK.due("none of nothing", disk.raw(20, 0, 0), -1);
        Signals.tape(disk, 20, 40);
        CHECK.due("three bits", disk.raw(20, 0, -1), 3);
        CHECK.due("the last", disk.raw(20, 0, 2), 1);
        CHECK.due("none behind", disk.raw(20, 0, 3), -1);
        CHECK.due("none ahead", disk.raw(20, 0, -2), -1);
        CHECK.due("P below", disk.raw(7, 0, -1), -1);
        CHECK.due("P the least", disk.raw(8, 0, -1), 2 + 1 + 5);
        CHECK.due("P the greatest", disk.raw(60, 0, -1), 2);
        CHECK.due("P above", disk.raw(61, 0, -1), -1);
        CHECK.due("G below", disk.raw(20, -1, -1), -1);
        CHECK.due("G the greatest", disk.raw(20, 8, -1), 3);
        CHECK.due("G above", disk.raw(20, 9, -1), -1);
        CHECK.due("k far away", disk.raw(20, 0, Integer.MAX_VALUE), -1);
        CHECK.due("k far below", disk.raw(20, 0, Integer.MIN_VALUE), -1);
        disk.wipe();
        // the clock stays within 12 * P .. 20 * P: one-cell steps of 12 of 20 bring it to 240, not to 192
        int[] steps = new int[40];
        java.util.Arrays.fill(steps, 12);
        steps[39] = 22;
        Signals.tape(disk, steps);
        CHECK.due("held at 12 * P", disk.raw(20, 8, -1), 40);
        disk.wipe();
        java.util.Arrays.fill(steps, 28);
        steps[39] = 38;
        Signals.tape(disk, steps);
        CHECK.due("held at 20 * P", disk.raw(20, 8, -1), 41);
    }
}
