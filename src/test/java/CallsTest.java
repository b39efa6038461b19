import java.lang.management.ManagementFactory;
import java.util.Random;

/** 512 calls of one object: the last one answers as the first one would; more of them never throw; none makes an object. */
public final class CallsTest {
    private static final String GOOD = "cell 16;mark 68 138;data 2;sum add;";
    private static final int CALLS = 512;
    private static final Check CHECK = new Check("CallsTest");

    public static void main(String[] args) {
        CHECK.says("An object is used for at most 512 calls after it has been made;");
        questionsAgain();
        actsAgain();
        changesAgain();
        CHECK.says("what later calls answer is free.");
        farBeyond();
        room();
        CHECK.close();
    }

    /** Each call of it is counted, so that tests can go up to the last one. */
    private static int busy(ClickingDisk disk) {
        int calls = 0;
        int[][] text = {{0x63656c6c, 0x2031363b, 0x6d61726b, 0x20363820, 0x3133383b}, {0x64617461, 0x20323b73, 0x756d2061, 0x64643b20, 0x20202020}};
        for (int[] five : text) {
            disk.feed(five[0], five[1], five[2], five[3], five[4]);
            calls++;
        }
        CHECK.due("a format", disk.format(), 2);
        calls++;
        int[] steps = Signals.steps(Signals.raw(0x448a, 0, 1, 9, 9, 0, 19) + "1", 16);
        for (int at = 0; at < steps.length; at += 5) {
            int[] five = new int[5];
            for (int i = 0; i < 5 && at + i < steps.length; i++) {
                five[i] = steps[at + i];
            }
            disk.flux(five[0], five[1], five[2], five[3], five[4]);
            calls++;
        }
        disk.read(3);
        disk.file(1, 1);
        disk.tell(0, 1, 24);
        disk.flux(16, 32, 48, 0, 0);
        return calls + 4;
    }

    private static void questionsAgain() {
        int[][] numbers = {{}, {16, 0, 5}, {0, 0, 10}, {0, 2}, {0, 1, 0}, {0, 1, 1}, {2}, {2, 1}, {2, 0, 0}, {0}, {3}, {0}, {0, 1, 0}, {4}};
        int[] due = {0, 1, 9, 1, 1, 265, 0, 24, 1, 0, 90, 3, 32, 3};
        for (int q = 0; q < Calls.QUESTIONS.length; q++) {
            String name = Calls.QUESTIONS[q];
            ClickingDisk disk = new ClickingDisk();
            for (int calls = busy(disk) + 1; calls <= CALLS; calls++) {
                CHECK.due("call " + calls + ": " + Calls.told(name, numbers[q]), Calls.on(disk, name, numbers[q]), due[q]);
            }
        }
    }

    /** The same act up to the last call but one; then what is there is asked. */
    private static void actsAgain() {
        int[][] numbers = {{-1, -1, -1, -1, -1}, {0}, {}, {-1, -1, -1, -1, -1}, {}, {2}, {1, 23, 26}, {23, 24}};
        int[] asked = {6, 6, 0, 4, 4, 3, 1, 5};
        int[] due = {200, 0, 2, 303, 0, 10, 16, 6};
        for (int i = 0; i < Calls.ACTS.length; i++) {
            ClickingDisk disk = new ClickingDisk();
            for (int calls = busy(disk) + 1; calls < CALLS; calls++) {
                Calls.on(disk, Calls.ACTS[i], numbers[i]);
            }
            CHECK.due("the last call, after " + Calls.ACTS[i], disk.count(asked[i]), due[i]);
        }
    }

    private static void changesAgain() {
        ClickingDisk disk = new ClickingDisk();
        int calls = busy(disk);
        while (calls + 4 <= CALLS) {
            int c = calls % 24;
            disk.tell(0, c, calls % 27);
            disk.tell(1, c, calls % 27);
            CHECK.due("the last of call " + calls, disk.next(2, c), calls % 27);
            CHECK.due("tuned stays", disk.tuned(0, 2), 1);
            calls += 4;
        }
    }

    /** What these answer is free; that they throw nothing is not. */
    private static void farBeyond() {
        int[] edges = {Integer.MIN_VALUE, Integer.MAX_VALUE, -2, -1, 0, 1, 2, 3, 4, 7, 8, 9, 10, 17, 23, 24, 26, 27, 60, 61, 255, 256, 0x10101010};
        for (int seed = 0; seed < 20; seed++) {
            Random dice = new Random(seed);
            ClickingDisk disk = Signals.disk(GOOD);
            for (int calls = 0; calls < 4000; calls++) {
                String[] names = dice.nextBoolean() ? Calls.ACTS : Calls.QUESTIONS;
                int[] a = new int[5];
                for (int i = 0; i < 5; i++) {
                    a[i] = dice.nextInt(20) == 0 ? dice.nextInt() : edges[dice.nextInt(edges.length)];
                }
                Calls.on(disk, names[dice.nextInt(names.length)], a);
            }
            CHECK.due("it still answers", disk.count(7), -1);
        }
    }

    /** The rows are made by the constructor: some hundred thousand bytes, and the calls make nothing. */
    private static void room() {
        com.sun.management.ThreadMXBean beans = (com.sun.management.ThreadMXBean) ManagementFactory.getThreadMXBean();
        long id = Thread.currentThread().getId();
        beans.getThreadAllocatedBytes(id);
        long start = beans.getThreadAllocatedBytes(id);
        ClickingDisk disk = new ClickingDisk();
        long made = beans.getThreadAllocatedBytes(id);
        CHECK.due("bytes of an object: " + (made - start), made - start < 200000, true);
        busy(disk);
        for (int c = 0; c < 12; c++) {
            disk.tell(0, c, c + 1);
        }
        start = beans.getThreadAllocatedBytes(id);
        int sum = 0;
        for (int i = 0; i < 50; i++) {
            sum += disk.tell(1, 23, i % 24) ? 1 : 0;
            sum += disk.flux(-1, -1, -1, -1, -1) + disk.raw(16, 8, -1) + disk.read(i % 4) + disk.tuned(i, 2) + disk.status(0, 1, 0);
            sum += disk.value(0, 1, 0) + disk.mishaps(2) + disk.chain(2, 0, -1) + disk.gaps(0) + disk.hope(0) + disk.ask(1);
            sum += disk.written(0, 1, -1) + disk.feed(0, 0, 0, 0, 0) + disk.fault() + disk.format() + disk.found(0, 0, 10);
        }
        made = beans.getThreadAllocatedBytes(id);
        CHECK.due("bytes of calls: " + (made - start) + " by " + sum, made - start < 20000, true);
    }
}
