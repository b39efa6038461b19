/** Promises 1 to 5 and 23: a new object, feed, end, fault, format, count. */
public final class FormatTest {
    private static final String GOOD = "cell 20;mark 68 138;data 2;sum add;";
    private static final Check CHECK = new Check("FormatTest");

    public static void main(String[] args) {
        newObject();
        feedAndEnd();
        goodTexts();
        faults();
        tooEarly();
        formatTakesPlace();
        counts();
        CHECK.close();
    }

    private static void newObject() {
        ClickingDisk disk = new ClickingDisk();
        CHECK.due("NONE", ClickingDisk.NONE, -1);
        for (int what = 0; what <= 6; what++) {
            CHECK.due("count of a new object " + what, disk.count(what), 0);
        }
        CHECK.due("read without a format", disk.read(0), -1);
        CHECK.due("status without a format", disk.status(0, 0, 0), -1);
        CHECK.due("copies without a format", disk.status(0, 0, 1), -1);
        CHECK.due("value without a format", disk.value(0, 0, 0), -1);
        CHECK.due("written without a format", disk.written(0, 0, -1), -1);
        CHECK.due("found without a format", disk.found(0, -1, 0), -1);
        CHECK.due("tuned without a format", disk.tuned(0, 0), -1);
        CHECK.due("hope without a format", disk.hope(0), -999);
        CHECK.due("ask without a format", disk.ask(0), -1);
        CHECK.due("ask of a track without a format", disk.ask(1), -1);
        CHECK.due("fault of no text", disk.fault(), 0);
        CHECK.due("format of no text", disk.format(), -1);
        CHECK.due("the first catalogue is free", disk.next(0, 0), 25);
        CHECK.due("joined is free", disk.next(2, 23), 25);
        CHECK.due("a free disk has no mishaps", disk.mishaps(2), 0);
        disk.file(0, 1);
        CHECK.due("gaps without a format", disk.gaps(0), -1);
    }

    private static void feedAndEnd() {
        ClickingDisk disk = new ClickingDisk();
        for (int i = 1; i <= 10; i++) {
            CHECK.due("feed " + i, disk.feed(-1, 0, 1, Integer.MIN_VALUE, Integer.MAX_VALUE), 20 * i);
        }
        CHECK.due("feed above 200", disk.feed(0, 0, 0, 0, 0), -1);
        CHECK.due("bytes stay", disk.count(6), 200);
        CHECK.due("end above", disk.end(201), false);
        CHECK.due("end below", disk.end(-1), false);
        CHECK.due("end far below", disk.end(Integer.MIN_VALUE), false);
        CHECK.due("bytes still stay", disk.count(6), 200);
        CHECK.due("end with all", disk.end(200), true);
        CHECK.due("end at 181", disk.end(181), true);
        CHECK.due("feed to 201", disk.feed(0, 0, 0, 0, 0), -1);
        CHECK.due("end at 180", disk.end(180), true);
        CHECK.due("feed to 200", disk.feed(0, 0, 0, 0, 0), 200);
        CHECK.due("end of all", disk.end(0), true);
        CHECK.due("end again with more", disk.end(1), false);
        CHECK.due("none is left", disk.count(6), 0);
        disk.feed(0x63656c6c, 0x2032303b, 0x6d61726b, 0x20312032, 0x3b646174);
        disk.feed(0x6120333b, 0x73756d20, 0x786f723b, 0x20202020, 0x20202020);
        CHECK.due("bytes come the highest first", disk.fault(), -1);
        CHECK.due("data by them", disk.format(), 3);
    }

    private static int faultOf(String text) {
        ClickingDisk disk = new ClickingDisk();
        Signals.text(disk, text);
        int fault = disk.fault();
        CHECK.due("format of " + text, disk.format() == -1, fault != -1);
        CHECK.due("the text stays with a fault: " + text, disk.count(6), fault == -1 ? 0 : text.length());
        return fault;
    }

    private static void goodTexts() {
        String[] texts = {GOOD, "cell8;mark0 0;data1;sum xor;", "\n\n cell\n60 ;mark 255 255;data 8;sum crc 0 65535;swap;gain 8;",
            "swap ;sum crc65535 0;gain 0;data 3;mark 1\n2;cell 9;  \n", "cell 0000000000000000000000020;mark 00 001;data 08;sum add;",
            GOOD + "gain 4;" + "swap;" + " ".repeat(150)};
        for (String text : texts) {
            CHECK.due("fault of " + text, faultOf(text), -1);
        }
    }

    private static void faults() {
        Object[][] rows = {
            {"cell 7;", 5}, {"cell 61;", 5}, {"cell 99999999999999999999;", 5}, {"cell 4294967316;", 5}, {"gain 9;", 5},
            {"mark 256 0;", 5}, {"mark 0 256;", 7}, {"data 0;", 5}, {"data 9;", 5}, {"sum crc 65536 0;", 8},
            {"sum crc 0 65536;", 10}, {"sum crc 1;", 9}, {"sum add 1;", 8}, {"sum com;", 4}, {"sum ;", 4}, {"sum 5;", 4},
            {"swap 1;", 5}, {"cell ;", 5}, {"cell x;", 5}, {"cell 20 21;", 8}, {"mark 1;", 6}, {"mark 1 2 3;", 9},
            {";", 0}, {"5;", 0}, {"  cells 20;", 2}, {"cel 20;", 0}, {"Cell 20;", 0}, {"ceLl 20;", 0}, {"cell 20;$", 8},
            {"cell $;", 5}, {"cell 20$0;", 7}, {"cell 2$0;", 5}, {"cell 20\t;", 7}, {"cell 20;;", 8}, {"cell -20;", 5},
            {"cell 20; cell 30;", 9}, {"swap;swap;", 5}, {"gain 1;gain", 7}, {"sum add;sum xor;", 8}, {"cell 7 $", 5},
            {"crc 1 2;", 0}, {"add;", 0}, {GOOD + "$", 35}, {GOOD + "data 2;", 35}, {GOOD + " " + (char) 0, 36},
            {GOOD + (char) 255, 35}, {"cell 20" + (char) 160 + ";", 7}, {"cellcell 20;", 0}, {"swapcell 20;", 0},
            {"mark ;", 5}, {"sum crc;", 7}, {"bell 20;", 0}, {"cellz 20;", 0}, {"acell 20;", 0}, {"cell`20;", 4}, {"cell{20;", 4},
            {"cell 20:", 7}, {"cell/20;", 4},
        };
        for (Object[] row : rows) {
            CHECK.due("fault of " + row[0], faultOf((String) row[0]), (Integer) row[1]);
        }
    }

    private static void tooEarly() {
        String[] texts = {"", " ", " \n ", "cell", "cell ", "cell 20", "cell 20  ", "mark", "mark 1", "mark 1 2", "sum", "sum crc",
            "sum crc 1", "sum crc 1 2", "sum add", "swap", "data 2\n", "mark 68 138;data 2;sum add;", "cell 20;data 2;sum add;",
            "cell 20;mark 68 138;sum add;", "cell 20;mark 68 138;data 2;", GOOD + "swap", GOOD + "gain", "cell 20;swap;gain 2;"};
        for (String text : texts) {
            CHECK.due("fault of " + text, faultOf(text), text.length());
        }
    }

    private static void formatTakesPlace() {
        ClickingDisk disk = Signals.disk(GOOD);
        Signals.read(disk, 1, 20, Signals.raw(0x448a, 0, 1, 7, 8, 0, 16));
        Signals.tape(disk, 20, 30, 40);
        disk.tell(0, 3, 24);
        disk.file(3, 1);
        CHECK.due("a sector is right", disk.status(0, 1, 0), 1);
        Signals.text(disk, "cell 20;");
        CHECK.due("format with a fault", disk.format(), -1);
        CHECK.due("reads stay", disk.count(3), 1);
        CHECK.due("the tape stays", disk.count(4), 3);
        CHECK.due("the text stays", disk.count(6), 8);
        CHECK.due("a sector stays", disk.status(0, 1, 0), 1);
        Signals.text(disk, "cell 30;mark 1 2;data 5;sum xor;gain 3;");
        CHECK.due("a new format", disk.format(), 5);
        CHECK.due("N", disk.count(0), 5);
        CHECK.due("P", disk.count(1), 30);
        CHECK.due("G", disk.count(2), 3);
        CHECK.due("no reads", disk.count(3), 0);
        CHECK.due("the tape is empty", disk.count(4), 0);
        CHECK.due("files stay", disk.count(5), 1);
        CHECK.due("the text is empty", disk.count(6), 0);
        CHECK.due("catalogues stay", disk.next(0, 3), 24);
        CHECK.due("no copies", disk.status(0, 1, 1), 0);
        CHECK.due("no sector", disk.status(0, 1, 0), 0);
        CHECK.due("no read", disk.found(0, -1, 0), -1);
        CHECK.due("hope is new", disk.hope(1), 50);
        Signals.text(disk, GOOD + "gain 3;swap;");
        disk.format();
        Signals.text(disk, GOOD);
        disk.format();
        CHECK.due("gain is 0 without", disk.count(2), 0);
        Signals.read(disk, 1, 20, Signals.raw(0x448a, 0, 1, 7, 8, 0, 16));
        CHECK.due("swap does not stay", disk.found(0, 0, 2), 1);
    }

    private static void counts() {
        ClickingDisk disk = Signals.disk("cell 44;mark 68 138;data 7;sum add;gain 6;");
        Signals.read(disk, 0, 20, "1111");
        disk.read(0);
        Signals.tape(disk, 1, 2, 3);
        disk.file(0, 1);
        disk.feed(0, 0, 0, 0, 0);
        int[] due = {7, 44, 6, 2, 3, 1, 20};
        for (int what = 0; what < due.length; what++) {
            CHECK.due("count " + what, disk.count(what), due[what]);
        }
        for (int what : new int[] {-1, 7, 100, Integer.MIN_VALUE, Integer.MAX_VALUE}) {
            CHECK.due("count " + what, disk.count(what), -1);
        }
    }
}
