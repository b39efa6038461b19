/** Terms, part 3, TUNED, and promise 11: each sentence that names a bound, at the last value taken and the first not. */
public final class EdgeTunedTest {
    private static final int MARK = 0x9125;
    private static final String TAIL = "mark 145 37;data 1;sum add;";
    private static final Check CHECK = new Check("EdgeTunedTest");

    public static void main(String[] args) {
        sixLessAndSixMore();
        notBelowEight();
        notAboveSixty();
        gains();
        mostRight();
        fewestSlips();
        leastP();
        leastG();
        answers();
        CHECK.close();
    }

    private static ClickingDisk tunedBy(String format, int... steps) {
        ClickingDisk disk = Signals.disk(format);
        Signals.tape(disk, steps);
        disk.read(0);
        return disk;
    }

    private static void due(String what, ClickingDisk disk, int p, int g, int right, int slips) {
        CHECK.due(what + ": P", disk.tuned(0, 0), p);
        CHECK.due(what + ": G", disk.tuned(0, 1), g);
        CHECK.due(what + ": right ones", disk.tuned(0, 2), right);
        CHECK.due(what + ": slips", disk.tuned(0, 3), slips);
    }

    /** 105 and 119 are seven cells each by P 16 alone: 15 makes 119 eight of them, 17 makes 105 six. */
    private static void sixLessAndSixMore() {
        CHECK.says("TUNED by a READ: of P from that of the FORMAT less 6 to it and 6");
        int[] steps = Signals.steps(Signals.raw(0x0204, 1, 2, 30, 0, 33) + "1", 16);
        steps[0] = 105;
        steps[1] = 119;
        for (int cell = 8; cell <= 30; cell++) {
            boolean near = cell >= 10 && cell <= 22;
            ClickingDisk disk = tunedBy("cell " + cell + ";mark 2 4;data 1;sum add;", steps);
            due("from " + cell, disk, near ? 16 : Math.max(8, cell - 6), 0, near ? 1 : 0, 0);
        }
    }

    /** A first step of 28 is four cells by P 8 and three by 9; one of 27 would be four by P 7, and is three by 8. */
    private static void notBelowEight() {
        CHECK.says("(8 .. 60)");
        int[] steps = Signals.steps(Signals.raw(0x1245, 1, 2, 3, 0, 6) + "1", 8);
        steps[0] = 28;
        for (int cell = 8; cell <= 15; cell++) {
            ClickingDisk disk = tunedBy("cell " + cell + ";mark 18 69;data 1;sum add;", steps);
            due("by 8 from " + cell, disk, cell <= 14 ? 8 : 9, 0, cell <= 14 ? 1 : 0, 0);
        }
        steps = Signals.steps(Signals.raw(0x1245, 1, 2, 3, 0, 6) + "1", 7);
        steps[0] = 27;
        for (int cell = 8; cell <= 14; cell++) {
            due("by 7 from " + cell, tunedBy("cell " + cell + ";mark 18 69;data 1;sum add;", steps), 8, 0, 0, 0);
        }
    }

    /** A second step of 209 is three cells by P 60 and four by 59; one of 212 would be three by 61, and is four by 60. */
    private static void notAboveSixty() {
        CHECK.says("(8 .. 60)");
        int[] steps = Signals.steps(Signals.raw(MARK, 1, 2, 3, 0, 6) + "1", 60);
        steps[1] = 209;
        for (int cell = 52; cell <= 60; cell++) {
            due("by 60 from " + cell, tunedBy("cell " + cell + ";" + TAIL, steps), cell < 54 ? cell - 6 : 60, 0, cell < 54 ? 0 : 1, 0);
        }
        steps = Signals.steps(Signals.raw(MARK, 1, 2, 3, 0, 6) + "1", 61);
        steps[1] = 212;
        for (int cell = 54; cell <= 60; cell++) {
            due("by 61 from " + cell, tunedBy("cell " + cell + ";" + TAIL, steps), cell - 6, 0, 0, 0);
        }
    }

    /** A sector behind a lead, read by a disk whose speed goes evenly from one cell to another. */
    private static int[] drifting(int from, int to) {
        int[] cells = Signals.steps("10".repeat(20) + Signals.raw(MARK, 1, 2, 3, 0, 6) + "1", 1);
        int[] steps = new int[cells.length];
        int last = cells.length - 1;
        for (int i = 0; i <= last; i++) {
            steps[i] = (2 * cells[i] * (from * last + (to - from) * i) + last) / (2 * last);
        }
        return steps;
    }

    private static int rightBy(int cell, int gain, int[] steps) {
        ClickingDisk disk = tunedBy("cell " + cell + ";gain " + gain + ";" + TAIL, steps);
        return disk.found(0, -1, 0) == 1 ? disk.status(1, 2, 2) : 0;
    }

    private static void gains() {
        CHECK.says("and G 0 .. 8,");
        int[] slowing = drifting(14, 29);
        for (int cell = 14; cell <= 26; cell++) {
            for (int gain = 0; gain <= 8; gain++) {
                CHECK.due("by " + cell + " and " + gain, rightBy(cell, gain, slowing), cell == 20 && gain == 8 ? 1 : 0);
            }
        }
        due("G 8 alone reads it", tunedBy("cell 20;" + TAIL, slowing), 20, 8, 1, 0);
        due("the G of the format does not count", tunedBy("cell 20;gain 4;" + TAIL, slowing), 20, 8, 1, 0);
        int[] even = drifting(20, 20);
        CHECK.due("by 17 and G 0", rightBy(17, 0, even), 0);
        CHECK.due("by 18 and G 0", rightBy(18, 0, even), 1);
        due("G 0 is enough from 18 on", tunedBy("cell 24;gain 8;" + TAIL, even), 18, 0, 1, 0);
    }

    /** A second step of 55 is three cells from P 16 on: a first sector with three slips comes to one without. */
    private static void mostRight() {
        CHECK.says("those with the most RIGHT SECTORS,");
        String slipped = Signals.flip(Signals.raw(MARK, 2, 2, 2, 0, 6), 18, 22, 26);
        int[] steps = Signals.steps(slipped + "1" + Signals.raw(MARK, 1, 2, 3, 0, 6) + "1", 16);
        steps[1] = 55;
        CHECK.due("one without slips by 15", rightBy(15, 0, steps), 1);
        due("two with slips", tunedBy("cell 16;" + TAIL, steps), 16, 0, 2, 3);
        due("two by 16 at the edge", tunedBy("cell 10;" + TAIL, steps), 16, 0, 2, 3);
        due("none, one or two: one is left", tunedBy("cell 9;" + TAIL, steps), 13, 2, 1, 0);
    }

    /**
     * By P 15 a second step of 39 is three cells, and a sector begins with it; from 16 on it is two, and another sector
     * begins with the last 16 bits of the first one, which are the mark.
     */
    private static int[] oneOrTheOther(int... slips) {
        String first = Signals.raw(MARK, 1, 2, 80, 0, 83);
        CHECK.due("the first ends with the mark", first.endsWith(Signals.bitsOf(MARK, 16)), true);
        String second = Signals.raw(MARK, 1, 3, 9, 0, 13).substring(16);
        int[] steps = Signals.steps(Signals.flip(first + second, slips) + "1", 16);
        steps[1] = 39;
        return steps;
    }

    private static void fewestSlips() {
        CHECK.says("of like ones with the fewest SLIPS in these,");
        ClickingDisk disk = tunedBy("cell 21;" + TAIL, oneOrTheOther(40));
        due("one slip by 15, none by 16", disk, 16, 0, 1, 0);
        due("none by 15, one by 16", tunedBy("cell 21;" + TAIL, oneOrTheOther(100)), 15, 0, 1, 0);
        due("two by 15, one by 16", tunedBy("cell 21;" + TAIL, oneOrTheOther(40, 44, 100)), 16, 0, 1, 1);
        due("one by each", tunedBy("cell 21;" + TAIL, oneOrTheOther(40, 100)), 15, 0, 1, 1);
        due("one slip alone", tunedBy("cell 21;" + TAIL, Signals.steps(
            Signals.flip(Signals.raw(MARK, 1, 2, 80, 0, 82), 40) + "1" + Signals.flip(Signals.raw(MARK, 1, 3, 9, 0, 13), 18)
            + "1", 16)), 15, 0, 1, 1);
    }

    private static void leastP() {
        CHECK.says("then the least P,");
        due("no slips by 15 or 16", tunedBy("cell 21;" + TAIL, oneOrTheOther()), 15, 0, 1, 0);
        int[] quicker = drifting(19, 12);
        CHECK.due("by 14 and G 7", rightBy(14, 7, quicker), 0);
        CHECK.due("by 14 and G 8", rightBy(14, 8, quicker), 1);
        CHECK.due("by 15 and G 1", rightBy(15, 1, quicker), 1);
        due("the least P is ahead of the least G", tunedBy("cell 20;" + TAIL, quicker), 14, 8, 1, 0);
        due("nothing to read", tunedBy("cell 40;gain 5;" + TAIL), 34, 0, 0, 0);
    }

    private static void leastG() {
        CHECK.says("then the least G.");
        int[] quick = drifting(12, 12);
        for (int gain = 0; gain <= 8; gain++) {
            CHECK.due("by 14 and G " + gain, rightBy(14, gain, quick), gain == 0 ? 0 : 1);
        }
        due("G 1 of 1 .. 8", tunedBy("cell 20;gain 8;" + TAIL, quick), 14, 1, 1, 0);
    }

    private static void answers() {
        CHECK.says("TUNED: 0 P, 1 G, 2 how many RIGHT, 3 SLIPS. NONE for others, or if there is no such READ.");
        ClickingDisk disk = new ClickingDisk();
        CHECK.due("without a format", disk.tuned(0, 0), -1);
        disk = Signals.disk("cell 20;" + TAIL);
        CHECK.due("without a read", disk.tuned(0, 0), -1);
        for (int read = 0; read < 10; read++) {
            CHECK.due("not yet read " + read, disk.tuned(read, 0), -1);
            Signals.read(disk, 0, 20, Signals.flip(Signals.raw(MARK, 1, 2, 3, 0, 6), 18));
            int[] due = {17, 5, 1, 1};
            for (int what = 0; what < 4; what++) {
                CHECK.due("what " + what + " of read " + read, disk.tuned(read, what), due[what]);
            }
        }
        int[] slipped = Signals.steps(Signals.flip(Signals.raw(MARK, 1, 2, 3, 0, 6), 18) + "1", 20);
        CHECK.due("by 17 and G 4", rightBy(17, 4, slipped), 0);
        CHECK.due("by 17 and G 5", rightBy(17, 5, slipped), 1);
        int[] off = {-1, 4, 5, 10, Integer.MIN_VALUE, Integer.MAX_VALUE};
        for (int what : off) {
            CHECK.due("what " + what, disk.tuned(0, what), -1);
            CHECK.due("what " + what + " of the last", disk.tuned(9, what), -1);
        }
        for (int read : new int[] {-1, 10, 11, Integer.MIN_VALUE, Integer.MAX_VALUE}) {
            CHECK.due("read " + read, disk.tuned(read, 0), -1);
        }
    }
}
