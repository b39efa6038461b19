import java.util.ArrayList;
import java.util.Arrays;
import java.util.List;

/**
 * What is refused changes nothing, and neither does a question: in some states each call is made by edges of its numbers;
 * where it is refused, or a question, all that can be asked must be answered as without it, and all that comes then too.
 */
public final class RefusedTest {
    private static final String GOOD = "cell 16;mark 68 138;data 2;sum add;";
    private static final int STATES = 5;
    private static final int CALLS_A_VIEW = 300;
    private static final int[] CATALOGUES = {Integer.MIN_VALUE, -1, 0, 1, 2, 3, Integer.MAX_VALUE};
    private static final int[] CLUSTERS = {Integer.MIN_VALUE, -1, 0, 5, 23, 24, Integer.MAX_VALUE};
    private static final int[] SMALL = {Integer.MIN_VALUE, -2, -1, 0, 1, 2, 3, 4, 9, 10, 11, Integer.MAX_VALUE};
    private static final int[] NUMBERS = {-1, 0, 1, 3, 255, 256};
    private static final Check CHECK = new Check("RefusedTest");

    /** A call with its numbers. */
    private record Call(String name, int... a) {
        int on(ClickingDisk disk) {
            return Calls.on(disk, name, a);
        }

        boolean refused(int answer) {
            return name.equals("end") || name.equals("tell") ? answer == 0 : answer == -1;
        }

        String told() {
            return Calls.told(name, a);
        }
    }

    public static void main(String[] args) {
        CHECK.says("What is refused changes nothing.");
        List<Call[]> views = views();
        for (int state = 0; state < STATES; state++) {
            List<int[]> before = new ArrayList<>();
            for (Call[] view : views) {
                before.add(answers(build(state), view));
            }
            int refused = 0;
            for (Call call : calls()) {
                refused += check(state, call, views, before) ? 1 : 0;
            }
            CHECK.due("some acts are refused in state " + state, refused > 100, true);
        }
        CHECK.close();
    }

    /** Whether the call is an act that was refused. */
    private static boolean check(int state, Call call, List<Call[]> views, List<int[]> before) {
        boolean act = Arrays.asList(Calls.ACTS).contains(call.name());
        for (int v = 0; v < views.size(); v++) {
            ClickingDisk disk = build(state);
            int answer = call.on(disk);
            if (act && !call.refused(answer)) {
                return false;
            }
            int[] after = answers(disk, views.get(v));
            for (int i = 0; i < after.length; i++) {
                if (after[i] != before.get(v)[i]) {
                    CHECK.due("state " + state + " after " + call.told() + ": " + views.get(v)[i].told(), after[i], before.get(v)[i]);
                }
            }
            CHECK.due("all of a view", after.length, before.get(v).length);
        }
        return act;
    }

    private static int[] answers(ClickingDisk disk, Call[] view) {
        int[] out = new int[view.length];
        for (int i = 0; i < view.length; i++) {
            out[i] = view[i].on(disk);
        }
        return out;
    }

    /** New; without a format; busy; full; full and not to be joined. */
    private static ClickingDisk build(int state) {
        ClickingDisk disk = state < 2 ? new ClickingDisk() : Signals.disk(GOOD);
        if (state == 1) {
            Signals.text(disk, "cell 20; mark");
            Signals.tape(disk, 16, 32, 48);
            disk.tell(0, 5, 3);
            disk.file(5, 2);
        }
        if (state >= 2) {
            Signals.read(disk, 0, 16, Signals.raw(0x448a, 0, 1, 9, 9, 0, 19) + Signals.raw(0x448a, 0, 2, 9, 9, 0, 0));
            Signals.read(disk, 3, 16, Signals.raw(0x448a, 0, 3, 9, 9, 0, 22));
            Signals.read(disk, 3, 16, Signals.raw(0x448a, 0, 3, 8, 9, 0, 21));
            disk.tell(0, 5, 6);
            disk.tell(1, 5, 7);
            disk.tell(1, 6, 24);
            disk.file(5, 2);
            disk.file(0, 24);
            Signals.tape(disk, 16, 32, 48, 99);
            Signals.text(disk, "cell 30;mark 1 2;data 3;sum xo");
        }
        if (state >= 3) {
            fill(disk, state == 4 ? 13 : 12);
        }
        return disk;
    }

    private static void fill(ClickingDisk disk, int unlike) {
        for (int i = 3; i < 10; i++) {
            disk.read(i % 4);
        }
        for (int i = 2; i < 6; i++) {
            disk.file(i, i);
        }
        for (int c = 24 - unlike; c < 24; c++) {
            disk.tell(0, c, 24);
            disk.tell(1, c, 26);
        }
        disk.tell(0, 5, 25);
        disk.tell(1, 5, 25);
        disk.tell(1, 6, 25);
        Signals.tape(disk, Signals.times(20, 320));
        Signals.text(disk, " ".repeat(180) + "cell 7 $");
        disk.feed(0, 0, 0, 0, 0);
        disk.end(180);
        disk.feed(0x2063656c, 0x6c203761, 0x20202020, 0x20202020, 0x20202020);
    }

    /** Edges of each number of each call. */
    private static List<Call> calls() {
        List<Call> out = new ArrayList<>();
        out.add(new Call("feed", -1, 0, 1, 2, 3));
        out.add(new Call("format"));
        out.add(new Call("fault"));
        out.add(new Call("flux", -1, -1, -1, -1, -1));
        out.add(new Call("flux", 0, 0, 0, 0, 1));
        for (int n : new int[] {Integer.MIN_VALUE, -2, -1, 1, 14, 31, 201, 202, Integer.MAX_VALUE}) {
            out.add(new Call("end", n));
        }
        for (int n : SMALL) {
            for (String name : new String[] {"read", "mishaps", "gaps", "hope", "ask", "count"}) {
                out.add(new Call(name, n));
            }
        }
        edges(out, "tell", CATALOGUES, CLUSTERS, new int[] {Integer.MIN_VALUE, -1, 0, 26, 27, Integer.MAX_VALUE});
        edges(out, "chain", new int[] {-1, 0, 2, 3}, new int[] {-1, 0, 5, 6}, new int[] {-2, -1, 0, 24});
        edges(out, "raw", new int[] {7, 8, 60, 61}, new int[] {-1, 0, 8, 9}, new int[] {-2, -1, 0, 2560});
        edges(out, "found", new int[] {-1, 0, 9, 10}, new int[] {-2, -1, 0, 8}, new int[] {-1, 0, 9, 10, 12});
        edges(out, "status", NUMBERS, NUMBERS, new int[] {-1, 0, 3});
        edges(out, "value", new int[] {0, 256}, NUMBERS, new int[] {-1, 0, 2});
        edges(out, "written", new int[] {0, 256}, NUMBERS, new int[] {-2, -1, 0, 300});
        for (int first : CLUSTERS) {
            for (int length : new int[] {Integer.MIN_VALUE, -1, 0, 1, 24, 25, Integer.MAX_VALUE}) {
                out.add(new Call("file", first, length));
            }
            out.add(new Call("next", 2, first));
            out.add(new Call("tuned", first, 3));
            out.add(new Call("tuned", 0, first));
        }
        return out;
    }

    private static void edges(List<Call> out, String name, int[] first, int[] second, int[] third) {
        for (int a : first) {
            for (int b : second) {
                for (int c : third) {
                    out.add(new Call(name, a, b, c));
                }
            }
        }
    }

    /** All questions, in parts that an object can answer; then calls that show the text and what comes next. */
    private static List<Call[]> views() {
        List<Call> all = new ArrayList<>();
        askReads(all);
        askDisk(all);
        List<Call[]> out = new ArrayList<>();
        for (int at = 0; at < all.size(); at += CALLS_A_VIEW) {
            out.add(all.subList(at, Math.min(all.size(), at + CALLS_A_VIEW)).toArray(new Call[0]));
        }
        List<Call> text = new ArrayList<>();
        for (int n = 200; n >= 0; n -= n > 180 || n < 20 ? 1 : 4) {
            text.add(new Call("end", n));
            text.add(new Call("fault"));
        }
        out.add(text.toArray(new Call[0]));
        out.add(new Call[] {new Call("flux", 1, 0, 0, 0, 0), new Call("feed", 0, 0, 0, 0, 0), new Call("file", 7, 7),
            new Call("tell", 1, 7, 8), new Call("mishaps", 2), new Call("read", 2), new Call("count", 3), new Call("count", 4),
            new Call("found", 3, -1, 0), new Call("hope", 2), new Call("wipe"), new Call("format"), new Call("count", 6)});
        return out;
    }

    private static void askReads(List<Call> all) {
        for (int what = 0; what < 7; what++) {
            all.add(new Call("count", what));
        }
        all.add(new Call("fault"));
        for (int k = -1; k < 30; k++) {
            all.add(new Call("raw", 16, 0, k));
        }
        all.add(new Call("raw", 12, 8, -1));
        for (int read = 0; read < 10; read++) {
            all.add(new Call("found", read, -1, 0));
            for (int what = 0; what < 12; what++) {
                all.add(new Call("found", read, what % 2, what < 6 ? what : what + 4));
            }
            for (int what = 0; what < 4 && read < 4; what++) {
                all.add(new Call("tuned", read, what));
            }
        }
        for (int number = 0; number < 4; number++) {
            for (int what = 0; what < 3; what++) {
                all.add(new Call("status", 0, number, what));
            }
            all.add(new Call("value", 0, number, 0));
            all.add(new Call("value", 0, number, 1));
            for (int k = -1; k < 20; k++) {
                all.add(new Call("written", 0, number, k));
            }
        }
        for (int drive = 0; drive < 4; drive++) {
            all.add(new Call("hope", drive));
        }
        all.add(new Call("ask", 0));
    }

    private static void askDisk(List<Call> all) {
        for (int catalogue = 0; catalogue < 3; catalogue++) {
            all.add(new Call("mishaps", catalogue));
            for (int c = 0; c < 24; c++) {
                all.add(new Call("next", catalogue, c));
            }
            for (int file = 0; file < 6; file++) {
                for (int k = -1; k < 4; k++) {
                    all.add(new Call("chain", catalogue, file, k));
                }
            }
        }
        for (int file = 0; file < 6; file++) {
            all.add(new Call("gaps", file));
        }
        all.add(new Call("ask", 1));
    }
}
