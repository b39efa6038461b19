import java.math.BigInteger;

/** Terms, part 1, and promises 1 to 5 and 23: each sentence that names a bound, at the last value taken and the first not. */
public final class EdgeFormatTest {
    private static final String GOOD = "cell 20;mark 68 138;data 2;sum add;";
    private static final String[] LINES = {"cell 20;", "mark 68 138;", "data 2;", "sum crc 4129 65535;", "gain 4;", "swap;"};
    private static final Check CHECK = new Check("EdgeFormatTest");

    public static void main(String[] args) {
        textOf200();
        everyByteAsToken();
        blanksBetween();
        anyOrder();
        eachAtMostOnce();
        numberBounds();
        gainWithout();
        threeSums();
        twoNumbers();
        firstToken();
        numberOrLineThatCant();
        byteThatBeginsNone();
        tooEarly();
        notTold();
        takesThePlace();
        fewerBytes();
        constant();
        newObject();
        feed();
        feedOrder();
        end();
        faultAnswer();
        formatAnswer();
        count();
        CHECK.close();
    }

    private static int fault(String text) {
        ClickingDisk disk = new ClickingDisk();
        Signals.text(disk, text);
        return disk.fault();
    }

    private static void faultDue(String text, int due) {
        CHECK.due("fault of <" + text + ">", fault(text), due);
    }

    private static void textOf200() {
        CHECK.says("A FORMAT is a text of at most 200 bytes.");
        String full = " ".repeat(165) + GOOD;
        ClickingDisk disk = new ClickingDisk();
        Signals.text(disk, full);
        CHECK.due("it has 200", disk.count(6), 200);
        CHECK.due("no fault at 200", disk.fault(), -1);
        CHECK.due("a format of 200", disk.format(), 2);
        faultDue(full.substring(0, 199) + "$", 199);
        disk = new ClickingDisk();
        Signals.text(disk, " " + full);
        CHECK.due("of 201 the last does not come", disk.count(6), 200);
        CHECK.due("and is missed", disk.fault(), 200);
        CHECK.due("no format of 201", disk.format(), -1);
    }

    /** Each byte behind a word, behind a number, ahead of a line and behind a line. */
    private static void everyByteAsToken() {
        CHECK.says("TOKENS: words of small letters, numbers of digits, as long as can be, and ; with");
        for (int b = 0; b < 256; b++) {
            boolean letter = b >= 97 && b <= 122;
            boolean digit = b >= 48 && b <= 57;
            boolean blank = b == 32 || b == 10;
            char sign = (char) b;
            faultDue("cell" + sign + "20;", letter ? 0 : blank || b == 48 ? 8 : 4);
            faultDue("cell 20" + sign + ";", digit ? 5 : blank ? 9 : b == 59 ? 8 : 7);
            faultDue(sign + "cell 20;", blank ? 9 : 0);
            faultDue("cell 20;" + sign, blank ? 9 : 8);
        }
        faultDue("cell 60;", 8);
        faultDue("cell 6 0;", 5);
        faultDue("cell 10 0;", 8);
        faultDue("cel l 20;", 0);
        faultDue("swapgain 2;", 0);
        faultDue("swap;gain2;", 11);
        faultDue("sumadd;", 0);
        everyLetter();
    }

    /** A word with another letter, one less or one more is no word that can stand there. */
    private static void everyLetter() {
        String[] words = {"cell", "gain", "mark", "data", "sum", "swap", "sum crc", "sum add", "sum xor"};
        for (String word : words) {
            int first = word.indexOf(' ') + 1;
            for (int i = first; i < word.length(); i++) {
                char letter = word.charAt(i) == 'q' ? 'z' : 'q';
                faultDue(word.substring(0, i) + letter + word.substring(i + 1) + " 9 9;", first);
                faultDue(word.substring(0, i) + letter + word.substring(i) + " 9 9;", first);
                faultDue(word.substring(0, i) + word.substring(i + 1) + " 9 9;", first);
            }
            faultDue(word + "q 9 9;", first);
        }
    }

    private static void blanksBetween() {
        CHECK.says("with any blanks (32) and line ends (10) between.");
        faultDue("cell20;mark68 138;data2;sum crc1 2;gain0;swap;", -1);
        faultDue(" \n  cell  \n20 ;\n\nmark\n68\n138\n;  data \n 2;sum  add ; \n", -1);
        faultDue("mark 68138;", 5);
        faultDue(" ".repeat(200), 200);
        faultDue("\n".repeat(200), 200);
        for (int b : new int[] {9, 11, 12, 13, 31, 33, 160}) {
            faultDue(GOOD + " " + (char) b, 36);
        }
    }

    /** All orders of six lines, and all choices of some of them. */
    private static void anyOrder() {
        CHECK.says("It is any number of, in any order,");
        order(new StringBuilder(), 0);
        for (int choice = 0; choice < 64; choice++) {
            StringBuilder text = new StringBuilder();
            for (int i = 0; i < 6; i++) {
                text.append((choice >> i & 1) == 1 ? LINES[i] : "");
            }
            faultDue(text.toString(), (choice & 15) == 15 ? -1 : text.length());
        }
    }

    private static void order(StringBuilder text, int used) {
        if (used == 63) {
            ClickingDisk disk = Signals.disk(text.toString());
            CHECK.due("N of " + text, disk.count(0), 2);
            CHECK.due("P of " + text, disk.count(1), 20);
            CHECK.due("G of " + text, disk.count(2), 4);
            return;
        }
        int length = text.length();
        for (int i = 0; i < 6; i++) {
            if ((used >> i & 1) == 0) {
                order(text.append(LINES[i]), used | 1 << i);
                text.setLength(length);
            }
        }
    }

    private static void eachAtMostOnce() {
        CHECK.says("each at most once:");
        String all = String.join("", LINES);
        faultDue(all, -1);
        String[] again = {"cell 30;", "mark 1 2;", "data 3;", "sum add;", "gain 0;", "swap;"};
        for (int i = 0; i < 6; i++) {
            faultDue(all + LINES[i], all.length());
            faultDue(all + again[i], all.length());
            faultDue(LINES[i] + again[i], LINES[i].length());
        }
    }

    private static void numberBounds() {
        CHECK.says("cell P ; (8 .. 60)");
        bounds("cell ", ";", 8, 60);
        CHECK.says("gain G ; (0 .. 8;");
        bounds("gain ", ";", 0, 8);
        CHECK.says("mark A B ; (bytes 0 .. 255)");
        bounds("mark ", " 7;", 0, 255);
        bounds("mark 7 ", ";", 0, 255);
        CHECK.says("data N ; (1 .. 8)");
        bounds("data ", ";", 1, 8);
        CHECK.says("(X, S 0 .. 65535)");
        bounds("sum crc ", " 7;", 0, 65535);
        bounds("sum crc 7 ", ";", 0, 65535);
    }

    /** A number that can be ends too early, as other lines are not told; one that can't is the fault. */
    private static void bounds(String ahead, String behind, int low, int high) {
        String zeros = "0".repeat(40);
        for (int good : new int[] {low, low + 1, high - 1, high}) {
            faultDue(ahead + good + behind, (ahead + good + behind).length());
            faultDue(ahead + zeros + good + behind, (ahead + zeros + good + behind).length());
        }
        if (low > 0) {
            faultDue(ahead + (low - 1) + behind, ahead.length());
        }
        faultDue(ahead + (high + 1) + behind, ahead.length());
        faultDue(ahead + zeros + (high + 1) + behind, ahead.length());
        for (int bit : new int[] {16, 31, 32, 33, 63, 64, 65, 128, 256}) {
            BigInteger wrap = BigInteger.ONE.shiftLeft(bit);
            faultDue(ahead + wrap.add(BigInteger.valueOf(low)) + behind, ahead.length());
            faultDue(ahead + wrap.add(BigInteger.valueOf(high)) + behind, ahead.length());
        }
        faultDue(ahead + "9".repeat(150) + behind, ahead.length());
        faultDue(ahead + "-" + low + behind, ahead.length());
        faultDue(ahead + behind, ahead.length() + (behind.startsWith(" ") ? 1 + behind.trim().indexOf(';') : 0));
    }

    private static void gainWithout() {
        CHECK.says("0 without)");
        CHECK.due("G without", Signals.disk(GOOD).count(2), 0);
        CHECK.due("G told as 0", Signals.disk(GOOD + "gain 0;").count(2), 0);
        ClickingDisk disk = Signals.disk(GOOD + "gain 8;");
        CHECK.due("G told as 8", disk.count(2), 8);
        Signals.text(disk, GOOD);
        disk.format();
        CHECK.due("G of the one ahead does not stay", disk.count(2), 0);
    }

    private static void threeSums() {
        CHECK.says("sum crc X S ; or sum add ; or sum xor ;");
        faultDue("sum add;", 8);
        faultDue("sum xor;", 8);
        faultDue("sum crc 0 0;", 12);
        faultDue("sum crc 0;", 9);
        faultDue("sum crc;", 7);
        faultDue("sum crc 0 0 0;", 12);
        faultDue("sum add 0;", 8);
        faultDue("sum xor 0 0;", 8);
        faultDue("sum add xor;", 8);
        faultDue("sum;", 3);
        faultDue("sum sum;", 4);
        faultDue("sum ad;", 4);
        faultDue("sum adds;", 4);
        CHECK.says("swap ;");
        faultDue("swap;", 5);
        faultDue("swap 0;", 5);
        faultDue("swap swap;", 5);
        ClickingDisk disk = Signals.disk(GOOD + "swap;");
        Signals.text(disk, "swap;swap;");
        CHECK.due("a fault behind swap", disk.fault(), 5);
        Signals.text(disk, GOOD);
        disk.format();
        Signals.read(disk, 0, 20, Signals.raw(0x448a, 1, 2, 7, 8, 0, 18));
        CHECK.due("swap of the one ahead does not stay", disk.found(0, 0, 1), 1);
    }

    private static void twoNumbers() {
        CHECK.says("mark A B ;");
        faultDue("mark;", 4);
        faultDue("mark ;", 5);
        faultDue("mark 1;", 6);
        faultDue("mark 1 ;", 7);
        faultDue("mark 1 2;", 9);
        faultDue("mark 1 2 3;", 9);
        CHECK.says("sum crc X S ;");
        faultDue("sum crc ;", 8);
        faultDue("sum crc 1 ;", 10);
        faultDue("sum crc 1 2 ;", 13);
        faultDue("sum crc add;", 8);
    }

    private static void firstToken() {
        CHECK.says("The FAULT is the place (from 0 on) of the first byte of the first TOKEN that can't stand there");
        faultDue("20 cell;", 0);
        faultDue(";cell 20;", 0);
        faultDue(" add", 1);
        faultDue("cell cell 20;", 5);
        faultDue("cell   gain;", 7);
        faultDue("cell 20 30 40;", 8);
        faultDue("cell 20 mark 1 2;", 8);
        faultDue("swap;;;", 5);
        faultDue(GOOD + "cells", 35);
        faultDue(" ".repeat(199) + "x", 199);
    }

    private static void numberOrLineThatCant() {
        CHECK.says("(also: a number that can't be, a line that was told already, at its first word)");
        faultDue("cell 61 x", 5);
        faultDue("data   9", 7);
        faultDue("swap;  swap", 7);
        faultDue("gain 1;gain 9;", 7);
        faultDue("gain 1;gain;", 7);
        faultDue("gain 1;gain$", 7);
        faultDue("gain 1;gai n", 7);
    }

    private static void byteThatBeginsNone() {
        CHECK.says("or of a byte that begins no TOKEN, if that is ahead;");
        faultDue("$", 0);
        faultDue("$cell 20;", 0);
        faultDue("cell $ 7;", 5);
        faultDue("cell 7 $;", 5);
        faultDue("cell 20; $ cell 20;", 9);
        faultDue("cell 20; cell $", 9);
        faultDue("cell 2$0;", 5);
        faultDue("cell 20$0;", 7);
        faultDue("cell 20; SWAP;", 9);
        faultDue(GOOD + "$", 35);
        faultDue("mark 1 2;data 2;sum add;$", 24);
    }

    /** The faults of all beginnings of a line, the empty one and the whole one too. */
    private static void early(String line, int... due) {
        for (int n = 0; n <= line.length(); n++) {
            faultDue(line.substring(0, n), due[n]);
        }
    }

    private static void tooEarly() {
        CHECK.says("the length, if it ends too early,");
        early("cell 20;", 0, 0, 0, 0, 4, 5, 5, 7, 8);
        early("gain 4;", 0, 0, 0, 0, 4, 5, 6, 7);
        early("mark 1 2;", 0, 0, 0, 0, 4, 5, 6, 7, 8, 9);
        early("data 2;", 0, 0, 0, 0, 4, 5, 6, 7);
        early("sum crc 1 2;", 0, 0, 0, 3, 4, 4, 4, 7, 8, 9, 10, 11, 12);
        early("sum add;", 0, 0, 0, 3, 4, 4, 4, 7, 8);
        early("sum xor;", 0, 0, 0, 3, 4, 4, 4, 7, 8);
        early("swap;", 0, 0, 0, 0, 4, 5);
        faultDue(GOOD + "swap", 39);
        faultDue(GOOD + "gain 4", 41);
        faultDue(GOOD + "gain 4 \n", 43);
        faultDue(GOOD.substring(0, 34), 34);
    }

    private static void notTold() {
        CHECK.says("or cell, mark, data or sum is not told; NONE without.");
        String[] needed = {"cell 20;", "mark 68 138;", "data 2;", "sum add;"};
        for (String left : needed) {
            String text = GOOD.replace(left, "");
            faultDue(text, text.length());
            faultDue(text + "gain 1;swap; ", text.length() + 13);
        }
        faultDue(GOOD, -1);
        faultDue(GOOD + "gain 1;", -1);
        faultDue(GOOD + "swap;", -1);
        faultDue("", 0);
    }

    private static ClickingDisk fullDisk() {
        ClickingDisk disk = Signals.disk("cell 20;gain 8;mark 68 138;data 2;sum add;swap;");
        for (int i = 0; i < 10; i++) {
            Signals.read(disk, i % 4, 20, Signals.raw(0x448a, 1, 0, 7, i, 0, 8 + i));
        }
        Signals.tape(disk, Signals.times(20, 320));
        for (int c = 0; c < 24; c++) {
            disk.tell(0, c, c);
            disk.tell(1, c, c < 12 ? c : 26);
        }
        for (int f = 0; f < 6; f++) {
            disk.file(4 * f, 24);
        }
        return disk;
    }

    private static void takesThePlace() {
        CHECK.says("A FORMAT without one takes the place of the one ahead: no READS, the TAPE is empty; catalogues and FILES stay.");
        ClickingDisk disk = fullDisk();
        CHECK.due("copies ahead", disk.status(0, 1, 1), 10);
        CHECK.due("tuned ahead", disk.tuned(0, 2), 1);
        Signals.text(disk, "cell 30;mark 68 138;data 2;sum add");
        CHECK.due("a fault takes no place", disk.format(), -1);
        CHECK.due("P stays", disk.count(1), 20);
        CHECK.due("reads stay", disk.count(3), 10);
        CHECK.due("steps stay", disk.count(4), 320);
        CHECK.due("copies stay", disk.status(0, 1, 1), 10);
        Signals.text(disk, "cell 30;mark 68 138;data 3;sum xor;");
        CHECK.due("a new one", disk.format(), 3);
        int[] due = {3, 30, 0, 0, 0, 6, 0};
        for (int what = 0; what < 7; what++) {
            CHECK.due("count " + what, disk.count(what), due[what]);
        }
        CHECK.due("no read is there", disk.found(0, -1, 0), -1);
        CHECK.due("none is tuned", disk.tuned(0, 0), -1);
        CHECK.due("no copies", disk.status(0, 1, 1), 0);
        CHECK.due("no status", disk.status(0, 1, 0), 0);
        CHECK.due("hope is new", disk.hope(0), 50);
        CHECK.due("the tape has no bits", disk.raw(20, 0, -1), 0);
        CHECK.due("the first catalogue stays", disk.next(0, 23), 23);
        CHECK.due("the second stays", disk.next(1, 23), 26);
        CHECK.due("the files stay", disk.chain(0, 5, 0), 20);
        CHECK.due("a seventh file", disk.file(0, 1), -1);
        for (int i = 0; i < 10; i++) {
            CHECK.due("a read again", disk.read(0), i);
        }
        CHECK.due("an eleventh again", disk.read(0), -1);
        CHECK.due("tuned anew", disk.tuned(0, 2), 0);
        CHECK.due("by the new P", disk.tuned(0, 0), 24);
        Signals.text(disk, "cell 30;mark 68 138;data 3;sum xor;");
        CHECK.due("the same text once more", disk.format(), 3);
        CHECK.due("takes the place too", disk.count(3), 0);
    }

    /** Eight bytes of data, then one: what stood behind it in the reads of the one ahead does not count. */
    private static void fewerBytes() {
        CHECK.says("A FORMAT without one takes the place of the one ahead: no READS,");
        ClickingDisk disk = Signals.disk("cell 16;mark 68 138;data 8;sum xor;");
        for (int i = 0; i < 4; i++) {
            Signals.read(disk, 0, 16, Signals.raw(0x448a, 3, 4, i, i, i, i, i, i, i, i, 0, 7));
        }
        CHECK.due("unlike data", disk.status(3, 4, 0), 2);
        for (int n = 1; n <= 8; n++) {
            Signals.text(disk, "cell 16;mark 68 138;data " + n + ";sum xor;");
            CHECK.due("a format", disk.format(), n);
            CHECK.due("nothing there", disk.status(3, 4, 0), 0);
            int[] bytes = new int[4 + n];
            bytes[0] = 3;
            bytes[1] = 4;
            bytes[3 + n] = 7;
            Signals.read(disk, 0, 16, Signals.raw(0x448a, bytes));
            Signals.read(disk, 0, 16, Signals.raw(0x448a, bytes));
            CHECK.due("the same data of " + n, disk.status(3, 4, 0), 1);
            CHECK.due("byte 0", disk.value(3, 4, 0), 256);
            CHECK.due("behind the last byte", disk.value(3, 4, n), -1);
            CHECK.due("found behind the last byte", disk.found(0, 0, 10 + n), -1);
        }
    }

    private static void constant() {
        CHECK.says("The constants: `NONE = -1`: There is none.");
        CHECK.due("NONE", ClickingDisk.NONE, -1);
        CHECK.due("there is no such count", new ClickingDisk().count(7), ClickingDisk.NONE);
        CHECK.due("how many bits by NONE", new ClickingDisk().raw(8, 0, ClickingDisk.NONE), 0);
    }

    private static void newObject() {
        CHECK.says("`ClickingDisk()`: No FORMAT.");
        ClickingDisk disk = new ClickingDisk();
        for (int what = 0; what < 7; what++) {
            CHECK.due("count " + what, disk.count(what), 0);
        }
        for (int drive = 0; drive < 4; drive++) {
            CHECK.due("read", disk.read(drive), -1);
            CHECK.due("hope", disk.hope(drive), -999);
        }
        for (int what = 0; what < 4; what++) {
            CHECK.due("found", disk.found(0, what - 1, 0), -1);
            CHECK.due("tuned", disk.tuned(0, what), -1);
            CHECK.due("status", disk.status(0, 0, what), -1);
            CHECK.due("value", disk.value(0, 0, what), -1);
            CHECK.due("ask", disk.ask(what), -1);
            CHECK.due("written", disk.written(0, 0, what - 1), -1);
        }
        CHECK.due("fault", disk.fault(), 0);
        CHECK.due("format", disk.format(), -1);
        CHECK.due("gaps", disk.gaps(0), -1);
        CHECK.due("a tape without a format", disk.flux(1, 1, 1, 1, 1), 5);
        CHECK.due("its bits", disk.raw(60, 8, -1), 5);
        CHECK.due("wiped", disk.wipe(), 5);
        CHECK.due("a file without a format", disk.file(23, 24), 0);
        CHECK.due("its chain", disk.chain(2, 0, 0), 23);
        CHECK.due("gaps of it", disk.gaps(0), -1);
        CHECK.due("mishaps without a format", disk.mishaps(2), 2);
        CHECK.due("tell without a format", disk.tell(1, 23, 24), true);
        CHECK.due("next without a format", disk.next(2, 23), 24);
    }

    private static void feed() {
        CHECK.says("how many there are; NONE if there would be more than 200.");
        ClickingDisk disk = new ClickingDisk();
        for (int i = 1; i <= 10; i++) {
            CHECK.due("feed " + i, disk.feed(0, 0, 0, 0, 0), 20 * i);
        }
        CHECK.due("an eleventh", disk.feed(0, 0, 0, 0, 0), -1);
        CHECK.due("all stay", disk.count(6), 200);
        for (int size = 199; size >= 181; size--) {
            CHECK.due("cut to " + size, disk.end(size), true);
            CHECK.due("more than 200 behind " + size, disk.feed(-1, -1, -1, -1, -1), -1);
            CHECK.due("they stay", disk.count(6), size);
        }
        CHECK.due("cut to 180", disk.end(180), true);
        CHECK.due("just 200", disk.feed(-1, -1, -1, -1, -1), 200);
    }

    /** A sign that begins no token among blanks, at each of 20 places, tells where a byte comes. */
    private static void feedOrder() {
        CHECK.says("Bytes come behind those of the text, of each number the highest first (20 of them):");
        for (int place = 0; place < 20; place++) {
            int[] five = {0x20202020, 0x20202020, 0x20202020, 0x20202020, 0x20202020};
            five[place / 4] |= 0xff << 24 - 8 * (place % 4);
            ClickingDisk disk = new ClickingDisk();
            CHECK.due("20 of them", disk.feed(five[0], five[1], five[2], five[3], five[4]), 20);
            CHECK.due("byte " + place, disk.fault(), place);
            disk.end(0);
            disk.feed(0x20202020, 0x20202020, 0x20202020, 0x20202020, 0x20202020);
            disk.end(7);
            CHECK.due("20 behind 7", disk.feed(five[0], five[1], five[2], five[3], five[4]), 27);
            CHECK.due("byte 7 and " + place, disk.fault(), 7 + place);
        }
    }

    private static void end() {
        CHECK.says("The text has its first n bytes alone: true; false if it has not so many, or n is below 0.");
        ClickingDisk disk = new ClickingDisk();
        CHECK.due("0 of none", disk.end(0), true);
        CHECK.due("1 of none", disk.end(1), false);
        CHECK.due("-1 of none", disk.end(-1), false);
        disk.feed(0x24242424, 0x24242424, 0x24242424, 0x24242424, 0x24242424);
        int[] off = {21, -1, 22, 200, 201, Integer.MIN_VALUE, Integer.MAX_VALUE};
        for (int n : off) {
            CHECK.due("end " + n, disk.end(n), false);
            CHECK.due("20 stay", disk.count(6), 20);
        }
        for (int n = 20; n >= 0; n--) {
            CHECK.due("end " + n, disk.end(n), true);
            CHECK.due("so many", disk.count(6), n);
            CHECK.due("not one more", disk.end(n + 1), false);
        }
        disk.feed(0x20202020, 0x20202020, 0x20202020, 0x20202020, 0x20202020);
        CHECK.due("what was cut is gone", disk.fault(), 20);
    }

    private static void faultAnswer() {
        CHECK.says("The FAULT of the text.");
        ClickingDisk disk = new ClickingDisk();
        CHECK.due("of the empty text", disk.fault(), 0);
        Signals.text(disk, GOOD + "gain 9;");
        CHECK.due("a fault", disk.fault(), 40);
        CHECK.due("the same again", disk.fault(), 40);
        CHECK.due("the text stays", disk.count(6), 42);
        disk.end(35);
        CHECK.due("none", disk.fault(), -1);
        CHECK.due("it is no format yet", disk.count(0), 0);
        CHECK.due("the text stays without a fault", disk.count(6), 35);
    }

    private static void formatAnswer() {
        CHECK.says("The FORMAT comes of the text, which is empty then: N; NONE with a FAULT (it stays).");
        for (int n = 0; n <= 9; n++) {
            ClickingDisk disk = new ClickingDisk();
            String text = GOOD.replace("data 2", "data " + n);
            boolean good = n >= 1 && n <= 8;
            Signals.text(disk, text);
            CHECK.due("N " + n, disk.format(), good ? n : -1);
            CHECK.due("the text behind it", disk.count(6), good ? 0 : text.length());
            CHECK.due("the fault behind it", disk.fault(), good ? 0 : text.indexOf("data") + 5);
            CHECK.due("once more", disk.format(), -1);
            CHECK.due("the format stays", disk.count(0), good ? n : 0);
        }
    }

    private static void count() {
        CHECK.says("0 N, 1 P, 2 G, 3 READS, 4 STEPS on the TAPE, 5 FILES, 6 bytes of the text. NONE for others.");
        ClickingDisk disk = Signals.disk("cell 60;gain 8;mark 1 2;data 8;sum add;");
        int[] due = {8, 60, 8, 0, 0, 0, 0};
        asked(disk, due);
        disk.read(3);
        disk.flux(1, 1, 0, 0, 0);
        disk.file(0, 1);
        disk.feed(0, 0, 0, 0, 0);
        asked(disk, new int[] {8, 60, 8, 1, 2, 1, 20});
        asked(fullDisk(), new int[] {2, 20, 8, 10, 320, 6, 0});
        CHECK.says("(0 .. 2: 0 without a FORMAT.)");
        disk = new ClickingDisk();
        disk.flux(1, 1, 0, 0, 0);
        disk.file(0, 1);
        disk.feed(0, 0, 0, 0, 0);
        asked(disk, new int[] {0, 0, 0, 0, 2, 1, 20});
    }

    private static void asked(ClickingDisk disk, int[] due) {
        for (int what = 0; what < 7; what++) {
            CHECK.due("count " + what, disk.count(what), due[what]);
        }
        for (int what : new int[] {-1, 7, 8, Integer.MIN_VALUE, Integer.MAX_VALUE}) {
            CHECK.due("count " + what, disk.count(what), -1);
        }
    }
}
