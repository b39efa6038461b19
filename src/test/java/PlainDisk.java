import java.util.ArrayList;
import java.util.HashSet;
import java.util.List;
import java.util.Set;
import java.util.TreeMap;
import java.util.TreeSet;
import java.util.regex.Matcher;
import java.util.regex.Pattern;

/** The document once more, in its plainest form and without a thought of cost: the fuzz test sets the two against each other. */
final class PlainDisk {
    static final class Sec {
        int read;
        int place;
        int track;
        int number;
        List<Integer> data = new ArrayList<>();
        int sum;
        int due;
        int slips;
    }

    static final class Fmt {
        int cell = -1;
        int gain = 0;
        int a = -1;
        int b;
        int n = -1;
        String sum;
        int x;
        int s;
        boolean swap;
    }

    String text = "";
    Fmt fmt;
    List<Integer> tape = new ArrayList<>();
    List<List<Integer>> reads = new ArrayList<>();
    List<Integer> drives = new ArrayList<>();
    int[][] cat = new int[2][24];
    List<int[]> files = new ArrayList<>();
    private final List<List<Sec>> found = new ArrayList<>();
    private Fmt parsed;

    PlainDisk() {
        java.util.Arrays.fill(cat[0], 25);
        java.util.Arrays.fill(cat[1], 25);
    }

    private static List<Integer> bytes(int... numbers) {
        List<Integer> out = new ArrayList<>();
        for (int n : numbers) {
            out.add(n >> 24 & 255);
            out.add(n >> 16 & 255);
            out.add(n >> 8 & 255);
            out.add(n & 255);
        }
        return out;
    }

    int feed(int a, int b, int c, int d, int e) {
        if (text.length() > 180) {
            return -1;
        }
        for (int v : bytes(a, b, c, d, e)) {
            text += (char) v;
        }
        return text.length();
    }

    boolean end(int n) {
        if (n < 0 || n > text.length()) {
            return false;
        }
        text = text.substring(0, n);
        return true;
    }

    /** Each token is named by a letter, and a line is a pattern of these. */
    int fault() {
        parsed = new Fmt();
        List<String> tokens = new ArrayList<>();
        List<Integer> places = new ArrayList<>();
        Matcher m = Pattern.compile("[a-z]+|[0-9]+|;|[^ \n]", Pattern.DOTALL).matcher(text);
        while (m.find()) {
            tokens.add(m.group());
            places.add(m.start());
        }
        Set<String> told = new HashSet<>();
        int at = 0;
        while (at < tokens.size()) {
            String head = tokens.get(at);
            List<String> form = form(head, at + 1 < tokens.size() ? tokens.get(at + 1) : "");
            if (form == null || !told.add(head)) {
                return places.get(at);
            }
            List<Integer> numbers = new ArrayList<>();
            at++;
            for (String want : form) {
                if (at >= tokens.size()) {
                    return text.length();
                }
                if (!fits(tokens.get(at), want, numbers)) {
                    return places.get(at);
                }
                at++;
            }
            note(head, form, numbers);
        }
        boolean all = told.contains("cell") && told.contains("mark") && told.contains("data") && told.contains("sum");
        return all ? -1 : text.length();
    }

    private static List<String> form(String head, String second) {
        switch (head) {
            case "cell": return List.of("8 60", ";");
            case "gain": return List.of("0 8", ";");
            case "mark": return List.of("0 255", "0 255", ";");
            case "data": return List.of("1 8", ";");
            case "swap": return List.of(";");
            case "sum":
                if (second.equals("add") || second.equals("xor")) {
                    return List.of(second, ";");
                }
                return List.of("crc", "0 65535", "0 65535", ";");
            default: return null;
        }
    }

    private static boolean fits(String token, String want, List<Integer> numbers) {
        if (!want.contains(" ")) {
            return token.equals(want);
        }
        if (!token.matches("[0-9]+")) {
            return false;
        }
        java.math.BigInteger v = new java.math.BigInteger(token);
        java.math.BigInteger low = new java.math.BigInteger(want.split(" ")[0]);
        java.math.BigInteger high = new java.math.BigInteger(want.split(" ")[1]);
        numbers.add(v.compareTo(high) <= 0 ? v.intValue() : -1);
        return v.compareTo(low) >= 0 && v.compareTo(high) <= 0;
    }

    private void note(String head, List<String> form, List<Integer> numbers) {
        switch (head) {
            case "cell": parsed.cell = numbers.get(0); break;
            case "gain": parsed.gain = numbers.get(0); break;
            case "mark": parsed.a = numbers.get(0); parsed.b = numbers.get(1); break;
            case "data": parsed.n = numbers.get(0); break;
            case "swap": parsed.swap = true; break;
            default:
                parsed.sum = form.get(0);
                if (numbers.size() == 2) {
                    parsed.x = numbers.get(0);
                    parsed.s = numbers.get(1);
                }
        }
    }

    int format() {
        if (fault() != -1) {
            return -1;
        }
        fmt = parsed;
        text = "";
        tape = new ArrayList<>();
        reads.clear();
        drives.clear();
        found.clear();
        return fmt.n;
    }

    int flux(int a, int b, int c, int d, int e) {
        List<Integer> more = bytes(a, b, c, d, e);
        more.removeIf(v -> v == 0);
        if (tape.size() + more.size() > 320) {
            return -1;
        }
        tape.addAll(more);
        return tape.size();
    }

    int wipe() {
        int had = tape.size();
        tape = new ArrayList<>();
        return had;
    }

    int read(int drive) {
        if (fmt == null || drive < 0 || drive > 3 || reads.size() == 10) {
            return -1;
        }
        reads.add(tape);
        drives.add(drive);
        found.add(sectors(rawOf(tape, fmt.cell, fmt.gain)));
        tape = new ArrayList<>();
        return reads.size() - 1;
    }

    static String rawOf(List<Integer> steps, int p, int g) {
        StringBuilder out = new StringBuilder();
        int c = 16 * p;
        for (int t : steps) {
            int n = (32 * t + c) / (2 * c);
            if (n < 1) {
                n = 1;
            }
            if (n > 8) {
                n = 8;
            }
            out.append("0000000".substring(0, n - 1)).append('1');
            c += (int) Math.floor((16 * t / n - c) * g / 32.0);
            if (c < 12 * p) {
                c = 12 * p;
            }
            if (c > 20 * p) {
                c = 20 * p;
            }
        }
        return out.toString();
    }

    int raw(int p, int g, int k) {
        if (p < 8 || p > 60 || g < 0 || g > 8) {
            return -1;
        }
        String bits = rawOf(tape, p, g);
        if (k == -1) {
            return bits.length();
        }
        return k >= 0 && k < bits.length() ? bits.charAt(k) - '0' : -1;
    }

    private int sum(List<Integer> row) {
        int total = 0;
        int mixed = 0;
        int[] plain = new int[row.size()];
        for (int i = 0; i < plain.length; i++) {
            plain[i] = row.get(i);
            total += plain[i];
            mixed ^= plain[i];
        }
        return fmt.sum.equals("add") ? total : fmt.sum.equals("xor") ? mixed : Signals.crc(fmt.x, fmt.s, plain);
    }

    private List<Sec> sectors(String bits) {
        List<Sec> out = new ArrayList<>();
        String mark = Signals.bitsOf(fmt.a, 8) + Signals.bitsOf(fmt.b, 8);
        int length = 16 * (4 + fmt.n);
        int at = 0;
        while (at + 16 + length <= bits.length()) {
            if (bits.startsWith(mark, at)) {
                out.add(sector(bits, at + 16));
                at += 16 + length;
            } else {
                at++;
            }
        }
        return out.size() > 8 ? new ArrayList<>(out.subList(0, 8)) : out;
    }

    private Sec sector(String bits, int place) {
        Sec s = new Sec();
        s.place = place;
        List<Integer> row = new ArrayList<>();
        char ahead = (char) ('0' + fmt.b % 2);
        for (int i = 0; i < 4 + fmt.n; i++) {
            StringBuilder b = new StringBuilder();
            for (int j = 0; j < 8; j++) {
                char clock = bits.charAt(place + 16 * i + 2 * j);
                char bit = bits.charAt(place + 16 * i + 2 * j + 1);
                boolean wanted = ahead == '0' && bit == '0';
                if (wanted != (clock == '1')) {
                    s.slips++;
                }
                ahead = bit;
                b.append(bit);
            }
            row.add(Integer.parseInt(b.toString(), 2));
        }
        s.track = row.get(fmt.swap ? 1 : 0);
        s.number = row.get(fmt.swap ? 0 : 1);
        s.data = row.subList(2, 2 + fmt.n);
        s.sum = 256 * row.get(2 + fmt.n) + row.get(3 + fmt.n);
        s.due = sum(row.subList(0, 2 + fmt.n));
        return s;
    }

    int found(int read, int k, int what) {
        if (read < 0 || read >= reads.size()) {
            return -1;
        }
        List<Sec> all = found.get(read);
        if (k == -1) {
            return all.size();
        }
        if (k < 0 || k >= all.size()) {
            return -1;
        }
        Sec s = all.get(k);
        int[] first = {s.place, s.track, s.number, s.sum, s.due, s.slips};
        if (what >= 0 && what < 6) {
            return first[what];
        }
        return what >= 10 && what - 10 < fmt.n ? s.data.get(what - 10) : -1;
    }

    int tuned(int read, int what) {
        if (read < 0 || read >= reads.size() || what < 0 || what > 3) {
            return -1;
        }
        TreeMap<String, int[]> byWorth = new TreeMap<>();
        for (int p = Math.max(8, fmt.cell - 6); p <= Math.min(60, fmt.cell + 6); p++) {
            for (int g = 0; g <= 8; g++) {
                int right = 0;
                int slips = 0;
                for (Sec s : sectors(rawOf(reads.get(read), p, g))) {
                    if (s.sum == s.due) {
                        right++;
                        slips += s.slips;
                    }
                }
                byWorth.put(String.format("%03d %06d %03d %d", 100 - right, slips, p, g), new int[] {p, g, right, slips});
            }
        }
        return byWorth.firstEntry().getValue()[what];
    }

    private List<Sec> copies(int track, int sector) {
        List<Sec> out = new ArrayList<>();
        for (List<Sec> all : found) {
            for (Sec s : all) {
                if (s.track == track && s.number == sector) {
                    out.add(s);
                }
            }
        }
        return out;
    }

    private List<Integer> mended(List<Sec> copies, int track, int sector) {
        List<TreeSet<Integer>> kinds = new ArrayList<>();
        long rows = 1;
        for (int i = 0; i < fmt.n + 2; i++) {
            TreeSet<Integer> here = new TreeSet<>();
            for (Sec s : copies) {
                here.add(i < fmt.n ? s.data.get(i) : i == fmt.n ? s.sum / 256 : s.sum % 256);
            }
            kinds.add(here);
            rows *= here.size();
            if (rows > 4096) {
                return null;
            }
        }
        List<List<Integer>> good = new ArrayList<>();
        for (int r = 0; r < rows; r++) {
            List<Integer> row = new ArrayList<>(fmt.swap ? List.of(sector, track) : List.of(track, sector));
            int rest = r;
            for (TreeSet<Integer> here : kinds) {
                row.add(new ArrayList<>(here).get(rest % here.size()));
                rest /= here.size();
            }
            if (sum(row.subList(0, 2 + fmt.n)) == 256 * row.get(2 + fmt.n) + row.get(3 + fmt.n)) {
                good.add(row.subList(2, 2 + fmt.n));
            }
        }
        return good.size() == 1 ? good.get(0) : null;
    }

    private Set<List<Integer>> rightData(List<Sec> copies) {
        Set<List<Integer>> out = new HashSet<>();
        for (Sec s : copies) {
            if (s.sum == s.due) {
                out.add(s.data);
            }
        }
        return out;
    }

    private int verdict(int track, int sector) {
        List<Sec> copies = copies(track, sector);
        int kinds = rightData(copies).size();
        if (copies.isEmpty()) {
            return 0;
        }
        if (kinds > 0) {
            return kinds == 1 ? 1 : 2;
        }
        return mended(copies, track, sector) != null ? 3 : 4;
    }

    int status(int track, int sector, int what) {
        if (fmt == null || what < 0 || what > 2 || track < 0 || track > 255 || sector < 0 || sector > 255) {
            return -1;
        }
        List<Sec> copies = copies(track, sector);
        if (what == 0) {
            return verdict(track, sector);
        }
        if (what == 1) {
            return copies.size();
        }
        copies.removeIf(s -> s.sum != s.due);
        return copies.size();
    }

    private List<Integer> sureData(int track, int sector) {
        List<Sec> copies = copies(track, sector);
        int verdict = verdict(track, sector);
        if (verdict == 1) {
            return rightData(copies).iterator().next();
        }
        return verdict == 3 ? mended(copies, track, sector) : null;
    }

    int value(int track, int sector, int i) {
        if (fmt == null || i < 0 || i >= fmt.n || copies(track, sector).isEmpty()) {
            return -1;
        }
        List<Integer> sure = sureData(track, sector);
        if (sure != null) {
            return 256 + sure.get(i);
        }
        TreeMap<Integer, Integer> votes = new TreeMap<>();
        List<Sec> copies = copies(track, sector);
        for (Sec s : copies) {
            votes.merge(s.data.get(i), 1, Integer::sum);
        }
        int best = -1;
        for (int b : votes.keySet()) {
            if (best < 0 || votes.get(b) > votes.get(best)) {
                best = b;
            }
        }
        return best + (votes.get(best) * 2 > copies.size() ? 256 : 0);
    }

    boolean tell(int catalogue, int cluster, int next) {
        if (catalogue < 0 || catalogue > 1 || cluster < 0 || cluster > 23 || next < 0 || next > 26) {
            return false;
        }
        cat[catalogue][cluster] = next;
        return true;
    }

    int file(int first, int length) {
        if (first < 0 || first > 23 || length < 1 || length > 24 || files.size() == 6) {
            return -1;
        }
        files.add(new int[] {first, length});
        return files.size() - 1;
    }

    private static List<Integer> chainOf(int[] row, int first) {
        List<Integer> out = new ArrayList<>();
        int at = first;
        while (at < 24 && !out.contains(at)) {
            out.add(at);
            at = row[at];
        }
        return out;
    }

    private int mishapsOf(int[] row) {
        int all = 0;
        int[] times = new int[24];
        for (int[] f : files) {
            List<Integer> chain = chainOf(row, f[0]);
            if (chain.size() != f[1]) {
                all++;
            }
            if (row[chain.get(chain.size() - 1)] != 24) {
                all++;
            }
            for (int c : chain) {
                times[c]++;
            }
        }
        for (int c = 0; c < 24; c++) {
            if (times[c] > 1) {
                all += times[c] - 1;
            }
            if (times[c] == 0 && row[c] != 25 && row[c] != 26) {
                all++;
            }
        }
        return all;
    }

    private int[] rowOf(int catalogue) {
        if (catalogue == 0 || catalogue == 1) {
            return cat[catalogue];
        }
        List<Integer> unlike = new ArrayList<>();
        for (int c = 0; c < 24; c++) {
            if (cat[0][c] != cat[1][c]) {
                unlike.add(c);
            }
        }
        if (catalogue != 2 || unlike.size() > 12) {
            return null;
        }
        int[] best = null;
        long bestWorth = Long.MAX_VALUE;
        for (int bits = 0; bits < 1 << unlike.size(); bits++) {
            int[] row = cat[0].clone();
            long mask = 0;
            for (int i = 0; i < unlike.size(); i++) {
                if ((bits >> i & 1) == 1) {
                    row[unlike.get(i)] = cat[1][unlike.get(i)];
                    mask |= 1L << unlike.get(i);
                }
            }
            long worth = ((long) mishapsOf(row) << 40) + ((long) Long.bitCount(mask) << 30) + mask;
            if (worth < bestWorth) {
                bestWorth = worth;
                best = row;
            }
        }
        return best;
    }

    int mishaps(int catalogue) {
        int[] row = rowOf(catalogue);
        return row == null ? -1 : mishapsOf(row);
    }

    int next(int catalogue, int cluster) {
        int[] row = rowOf(catalogue);
        return row == null || cluster < 0 || cluster > 23 ? -1 : row[cluster];
    }

    int chain(int catalogue, int file, int k) {
        int[] row = rowOf(catalogue);
        if (row == null || file < 0 || file >= files.size()) {
            return -1;
        }
        List<Integer> chain = chainOf(row, files.get(file)[0]);
        if (k == -1) {
            return chain.size();
        }
        return k >= 0 && k < chain.size() ? chain.get(k) : -1;
    }

    private boolean missing(int cluster) {
        return verdict(cluster / 4, cluster % 4) % 2 == 0;
    }

    int gaps(int file) {
        int[] row = rowOf(2);
        if (fmt == null || row == null || file < 0 || file >= files.size()) {
            return -1;
        }
        int all = 0;
        for (int c : chainOf(row, files.get(file)[0])) {
            all += missing(c) ? 1 : 0;
        }
        return all;
    }

    int hope(int drive) {
        if (fmt == null || drive < 0 || drive > 3) {
            return -999;
        }
        int right = 0;
        int all = 0;
        int times = 0;
        for (int r = 0; r < reads.size(); r++) {
            if (drives.get(r) == drive) {
                times++;
                for (Sec s : found.get(r)) {
                    all++;
                    right += s.sum == s.due ? 1 : 0;
                }
            }
        }
        return (all == 0 ? 50 : 100 * right / all) - 10 * times;
    }

    int ask(int what) {
        if (fmt == null || what < 0 || what > 1) {
            return -1;
        }
        if (what == 0) {
            int best = 3;
            for (int d = 2; d >= 0; d--) {
                best = hope(d) >= hope(best) ? d : best;
            }
            return best;
        }
        int[] row = rowOf(2);
        int[] lacks = new int[6];
        for (int c = 0; c < 24; c++) {
            boolean counts = row == null;
            for (int[] f : files) {
                counts |= row != null && chainOf(row, f[0]).contains(c);
            }
            lacks[c / 4] += counts && missing(c) ? 1 : 0;
        }
        int best = 5;
        for (int t = 4; t >= 0; t--) {
            best = lacks[t] >= lacks[best] ? t : best;
        }
        return best;
    }

    int written(int track, int sector, int k) {
        if (fmt == null) {
            return -1;
        }
        List<Integer> sure = sureData(track, sector);
        if (sure == null) {
            return -1;
        }
        List<Integer> row = new ArrayList<>(fmt.swap ? List.of(sector, track) : List.of(track, sector));
        row.addAll(sure);
        int sum = sum(row);
        row.add(sum / 256);
        row.add(sum % 256);
        int[] plain = row.stream().mapToInt(Integer::intValue).toArray();
        String bits = "1010101010101010" + Signals.raw(fmt.a * 256 + fmt.b, plain) + "1";
        String[] parts = bits.substring(1).split("1");
        int steps = parts.length;
        if (bits.endsWith("11")) {
            steps = (int) bits.chars().filter(c -> c == '1').count() - 1;
        }
        int[] out = new int[steps];
        for (int i = 0; i < steps; i++) {
            out[i] = fmt.cell * (1 + (i < parts.length ? parts[i].length() : 0));
            if (out[i] > 255) {
                return -1;
            }
        }
        if (k == -1) {
            return steps;
        }
        return k >= 0 && k < steps ? out[k] : -1;
    }

    int count(int what) {
        int n = fmt == null ? 0 : fmt.n;
        int[] all = {n, fmt == null ? 0 : fmt.cell, fmt == null ? 0 : fmt.gain, reads.size(), tape.size(), files.size(), text.length()};
        return what >= 0 && what < all.length ? all[what] : -1;
    }
}
