import java.util.Random;

/** Runs of seeded calls on the class and on PlainDisk: every answer must be the same. */
public final class ModelTest {
    private static final int[] EDGES = {Integer.MIN_VALUE, Integer.MAX_VALUE, -2, -1, 0, 1, 2, 3, 4, 5, 6, 7, 8, 9, 10,
        11, 17, 18, 23, 24, 25, 26, 27, 60, 61, 255, 256};

    private final Random dice;
    private final Check check;
    private final ClickingDisk disk = new ClickingDisk();
    private final PlainDisk plain = new PlainDisk();
    private final int run;
    private int calls;
    private int cell = 16;
    private int mark = 0x448a;
    private int size = 1;
    private String sum = "add";
    private int turn;
    private int start;
    private boolean swap;

    private ModelTest(int run, Check check) {
        this.run = run;
        this.check = check;
        this.dice = new Random(7919L * run + 1);
    }

    public static void main(String[] args) {
        Check check = new Check("ModelTest");
        int runs = args.length > 0 ? Integer.parseInt(args[0]) : 600;
        int from = args.length > 1 ? Integer.parseInt(args[1]) : 0;
        for (int run = from; run < from + runs; run++) {
            new ModelTest(run, check).play();
        }
        check.close();
    }

    private void play() {
        if (chance(90)) {
            tellFormat();
        }
        int rounds = 2 + dice.nextInt(14);
        for (int i = 0; i < rounds && calls < 470; i++) {
            switch (dice.nextInt(6)) {
                case 0:
                    catalogues();
                    break;
                case 1:
                    wild();
                    break;
                case 2:
                    askAll();
                    break;
                default:
                    readSome();
            }
            if (chance(3)) {
                tellFormat();
            }
        }
        askAll();
    }

    private boolean chance(int percent) {
        return dice.nextInt(100) < percent;
    }

    private int pick(int... of) {
        return of[dice.nextInt(of.length)];
    }

    private void call(String name, int... a) {
        if (calls >= 512) {
            return;
        }
        calls++;
        String told = "run " + run + " call " + calls + " " + Calls.told(name, a);
        check.due(told, Calls.on(disk, name, a), ofPlain(name, a));
    }

    private int ofPlain(String name, int[] a) {
        switch (name) {
            case "feed": return plain.feed(a[0], a[1], a[2], a[3], a[4]);
            case "end": return plain.end(a[0]) ? 1 : 0;
            case "fault": return plain.fault();
            case "format": return plain.format();
            case "flux": return plain.flux(a[0], a[1], a[2], a[3], a[4]);
            case "wipe": return plain.wipe();
            case "read": return plain.read(a[0]);
            case "raw": return plain.raw(a[0], a[1], a[2]);
            case "found": return plain.found(a[0], a[1], a[2]);
            case "tuned": return plain.tuned(a[0], a[1]);
            case "status": return plain.status(a[0], a[1], a[2]);
            case "value": return plain.value(a[0], a[1], a[2]);
            case "tell": return plain.tell(a[0], a[1], a[2]) ? 1 : 0;
            case "file": return plain.file(a[0], a[1]);
            case "mishaps": return plain.mishaps(a[0]);
            case "next": return plain.next(a[0], a[1]);
            case "chain": return plain.chain(a[0], a[1], a[2]);
            case "gaps": return plain.gaps(a[0]);
            case "hope": return plain.hope(a[0]);
            case "ask": return plain.ask(a[0]);
            case "written": return plain.written(a[0], a[1], a[2]);
            default: return plain.count(a[0]);
        }
    }

    private void callFive(String name, String signs, int at, char filler) {
        int[] five = new int[5];
        for (int i = 0; i < 20; i++) {
            five[i / 4] = five[i / 4] << 8 | (at + i < signs.length() ? signs.charAt(at + i) : filler);
        }
        call(name, five);
    }

    private void feedText(String text) {
        call("end", 0);
        for (int at = 0; at < text.length() && at < 200; at += 20) {
            callFive("feed", text, at, ' ');
        }
        call("end", Math.min(200, text.length()));
    }

    private String blank() {
        return chance(70) ? " " : chance(50) ? "\n" : chance(50) ? "  " : " \n ";
    }

    private String gapOrNot() {
        return chance(60) ? "" : blank();
    }

    private void tellFormat() {
        cell = chance(70) ? 8 + dice.nextInt(20) : 8 + dice.nextInt(53);
        mark = pick(0x448a, 0x4489, 0x5224, 0x0101, 0x1111, 0x4224, dice.nextInt(65536));
        size = chance(60) ? 1 + dice.nextInt(3) : 1 + dice.nextInt(8);
        sum = new String[] {"add", "xor", "crc"}[dice.nextInt(3)];
        turn = pick(4129, 32773, 0, 65535, dice.nextInt(65536));
        start = pick(0, 65535, 1234);
        swap = chance(30);
        String[] lines = {"cell" + blank() + cell, "mark" + gapOrNot() + (mark >> 8) + blank() + (mark & 255),
            "data" + gapOrNot() + (chance(10) ? "00" : "") + size,
            "sum" + blank() + sum + (sum.equals("crc") ? gapOrNot() + turn + blank() + start : ""),
            chance(50) ? "gain" + gapOrNot() + dice.nextInt(9) : "", swap ? "swap" : ""};
        for (int i = lines.length - 1; i > 0; i--) {
            int j = dice.nextInt(i + 1);
            String kept = lines[i];
            lines[i] = lines[j];
            lines[j] = kept;
        }
        StringBuilder text = new StringBuilder(gapOrNot());
        for (String line : lines) {
            text.append(line.isEmpty() ? "" : line + gapOrNot() + ";" + gapOrNot());
        }
        if (chance(40)) {
            feedText(spoiled(text.toString()));
            call("fault");
            call("format");
        }
        feedText(text.toString());
        call("fault");
        call("format");
    }

    private String spoiled(String text) {
        StringBuilder out = new StringBuilder(text);
        int times = 1 + dice.nextInt(2);
        for (int i = 0; i < times && out.length() > 0; i++) {
            int at = dice.nextInt(out.length());
            switch (dice.nextInt(5)) {
                case 0:
                    out.deleteCharAt(at);
                    break;
                case 1:
                    out.insert(at, "celldatasumswapgain;;; 0123456789$A\t".charAt(dice.nextInt(36)));
                    break;
                case 2:
                    out.setLength(at);
                    break;
                case 3:
                    out.append(new String[] {"cell 20;", "gain 3;", "swap;", "data", "sum add", "99999999999999", "{"}[dice.nextInt(7)]);
                    break;
                default:
                    out.setCharAt(at, (char) dice.nextInt(256));
            }
        }
        return out.toString();
    }

    private int sumOf(int[] bytes, int upTo) {
        int added = 0;
        int mixed = 0;
        for (int i = 0; i < upTo; i++) {
            added += bytes[i];
            mixed ^= bytes[i];
        }
        if (sum.equals("crc")) {
            return Signals.crc(turn, start, java.util.Arrays.copyOf(bytes, upTo));
        }
        return sum.equals("add") ? added : mixed;
    }

    /** Sectors of few numbers with data by these numbers, so that copies of one come again, some of them spoiled. */
    private String sectorBits() {
        int track = chance(70) ? 0 : dice.nextInt(6);
        int number = chance(50) ? 1 : dice.nextInt(4);
        int[] bytes = new int[4 + size];
        bytes[swap ? 1 : 0] = track;
        bytes[swap ? 0 : 1] = number;
        for (int i = 0; i < size; i++) {
            bytes[2 + i] = 37 * track + 11 * number + 59 * i & 255;
        }
        if (chance(6)) {
            bytes[2] ^= 1;
        }
        int due = sumOf(bytes, 2 + size);
        bytes[2 + size] = due >> 8;
        bytes[3 + size] = due & 255;
        int faults = chance(50) ? 0 : 1 + dice.nextInt(3);
        for (int i = 0; i < faults; i++) {
            bytes[2 + dice.nextInt(2 + size)] = chance(50) ? dice.nextInt(256) : dice.nextInt(3);
        }
        StringBuilder bits = new StringBuilder(Signals.raw(mark, bytes));
        if (chance(20)) {
            int at = 16 + dice.nextInt(bits.length() - 16);
            bits.setCharAt(at, bits.charAt(at) == '0' ? '1' : '0');
        }
        if (chance(5)) {
            bits.setLength(dice.nextInt(bits.length()));
        }
        return bits.toString();
    }

    private String tapeBits() {
        StringBuilder bits = new StringBuilder();
        if (chance(8)) {
            for (int i = 0; i < 150; i++) {
                bits.append("00000001");
            }
            return bits.toString();
        }
        int sectors = 1 + dice.nextInt(size > 3 ? 2 : 4);
        for (int i = 0; i < sectors; i++) {
            bits.append(chance(50) ? "" : "1010101010".substring(dice.nextInt(5)));
            bits.append(sectorBits());
            bits.append(chance(50) ? "" : "1");
        }
        return bits.append('1').toString();
    }

    private void readSome() {
        double speed = chance(60) ? 1 : 0.75 + dice.nextInt(51) / 100.0;
        int shake = chance(50) ? 0 : dice.nextInt(Math.max(1, cell / 3));
        int[] steps = Signals.steps(tapeBits(), cell);
        StringBuilder signs = new StringBuilder();
        for (int step : steps) {
            int shaken = (int) (step * speed) + (shake == 0 ? 0 : dice.nextInt(2 * shake + 1) - shake);
            signs.append((char) Math.max(chance(2) ? 0 : 1, Math.min(255, shaken)));
        }
        for (int at = 0; at < signs.length() && calls < 480; at += 20) {
            callFive("flux", signs.toString(), at, (char) 0);
        }
        call("raw", cell, dice.nextInt(9), -1);
        call("raw", pick(cell, 8, 60, 20), dice.nextInt(9), dice.nextInt(400));
        if (chance(5)) {
            call("wipe");
        }
        call("read", chance(95) ? dice.nextInt(4) : pick(-1, 4, 99));
        int read = plain.reads.size() - 1;
        call("found", read, -1, 0);
        for (int what = 0; what < 7 + size && what < 10; what++) {
            call("found", read, dice.nextInt(3), what < 6 ? what : 4 + what);
        }
        if (chance(40)) {
            call("tuned", read, 0);
            call("tuned", read, 1);
            call("tuned", read, 2);
            call("tuned", read, 3);
        }
        call("status", 0, 1, 0);
        call("value", 0, 1, dice.nextInt(size));
        call("written", 0, 1, -1);
    }

    private void catalogues() {
        int times = 4 + dice.nextInt(20);
        int at = dice.nextInt(24);
        for (int i = 0; i < times && calls < 470; i++) {
            int next = chance(60) ? dice.nextInt(24) : 24 + dice.nextInt(3);
            if (chance(50)) {
                call("tell", 0, at, next);
                call("tell", 1, at, chance(80) ? next : dice.nextInt(27));
            } else {
                call("tell", dice.nextInt(2), at, next);
            }
            at = next < 24 && chance(80) ? next : dice.nextInt(24);
            if (chance(12)) {
                call("file", chance(60) ? at : dice.nextInt(24), 1 + dice.nextInt(chance(80) ? 5 : 24));
            }
        }
        for (int c = 0; c < 3; c++) {
            call("mishaps", c);
            call("next", c, dice.nextInt(24));
            call("chain", c, dice.nextInt(6), -1);
            call("chain", c, dice.nextInt(6), dice.nextInt(4));
        }
        call("gaps", dice.nextInt(6));
        call("ask", 1);
    }

    private void wild() {
        String[] names = {"end", "read", "raw", "found", "tuned", "status", "value", "tell", "file", "mishaps", "next", "chain",
            "gaps", "hope", "ask", "written", "count", "feed", "flux", "wipe", "fault", "format"};
        int times = 5 + dice.nextInt(15);
        for (int i = 0; i < times; i++) {
            int[] a = new int[5];
            for (int j = 0; j < 5; j++) {
                a[j] = chance(90) ? pick(EDGES) : dice.nextInt();
            }
            call(names[dice.nextInt(names.length)], a);
        }
    }

    private void askAll() {
        for (int what = -1; what < 8; what++) {
            call("count", what);
        }
        for (int drive = -1; drive < 5; drive++) {
            call("hope", drive);
        }
        call("ask", 0);
        call("ask", 1);
        call("mishaps", 2);
        for (int i = 0; i < 4; i++) {
            int track = dice.nextInt(6);
            int number = dice.nextInt(4);
            call("status", track, number, dice.nextInt(3));
            call("value", track, number, dice.nextInt(size));
            call("gaps", dice.nextInt(6));
        }
        for (int what = 0; what < 3; what++) {
            call("status", 0, 1, what);
        }
        for (int i = 0; i < size; i++) {
            call("value", 0, 1, i);
        }
        call("written", 0, 1, -1);
        call("written", 0, 1, dice.nextInt(90));
    }
}
