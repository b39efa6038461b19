/** Calls by their names, so that tests can hold rows of them. A boolean counts 1 or 0. */
final class Calls {
    /** The calls that change something if they are not refused; all others are questions. */
    static final String[] ACTS = {"feed", "end", "format", "flux", "wipe", "read", "tell", "file"};
    static final String[] QUESTIONS = {"fault", "raw", "found", "tuned", "status", "value", "mishaps", "next", "chain", "gaps",
        "hope", "ask", "written", "count"};

    private Calls() {
    }

    static int on(ClickingDisk disk, String name, int... a) {
        switch (name) {
            case "feed": return disk.feed(a[0], a[1], a[2], a[3], a[4]);
            case "end": return disk.end(a[0]) ? 1 : 0;
            case "fault": return disk.fault();
            case "format": return disk.format();
            case "flux": return disk.flux(a[0], a[1], a[2], a[3], a[4]);
            case "wipe": return disk.wipe();
            case "read": return disk.read(a[0]);
            case "raw": return disk.raw(a[0], a[1], a[2]);
            case "found": return disk.found(a[0], a[1], a[2]);
            case "tuned": return disk.tuned(a[0], a[1]);
            case "status": return disk.status(a[0], a[1], a[2]);
            case "value": return disk.value(a[0], a[1], a[2]);
            case "tell": return disk.tell(a[0], a[1], a[2]) ? 1 : 0;
            case "file": return disk.file(a[0], a[1]);
            case "mishaps": return disk.mishaps(a[0]);
            case "next": return disk.next(a[0], a[1]);
            case "chain": return disk.chain(a[0], a[1], a[2]);
            case "gaps": return disk.gaps(a[0]);
            case "hope": return disk.hope(a[0]);
            case "ask": return disk.ask(a[0]);
            case "written": return disk.written(a[0], a[1], a[2]);
            case "count": return disk.count(a[0]);
            default: throw new IllegalArgumentException(name);
        }
    }

    /** How many numbers a call takes. */
    static int size(String name) {
        switch (name) {
            case "fault": case "format": case "wipe": return 0;
            case "end": case "read": case "mishaps": case "gaps": case "hope": case "ask": case "count": return 1;
            case "tuned": case "file": case "next": return 2;
            case "feed": case "flux": return 5;
            default: return 3;
        }
    }

    static String told(String name, int... a) {
        StringBuilder out = new StringBuilder(name);
        for (int v : a) {
            out.append(' ').append(v);
        }
        return out.toString();
    }
}
