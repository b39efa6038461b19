import java.util.ArrayList;
import java.util.List;

/** Makes texts and flux for the tests, by the document alone. */
final class Signals {
    private Signals() {
    }

    /** The text takes the place of the one that the disk has. */
    static void text(ClickingDisk disk, String text) {
        disk.end(0);
        for (int at = 0; at < text.length(); at += 20) {
            int[] five = new int[5];
            for (int i = 0; i < 20; i++) {
                int sign = at + i < text.length() ? text.charAt(at + i) : ' ';
                five[i / 4] = five[i / 4] << 8 | sign;
            }
            disk.feed(five[0], five[1], five[2], five[3], five[4]);
        }
        disk.end(text.length());
    }

    static ClickingDisk disk(String format) {
        ClickingDisk disk = new ClickingDisk();
        text(disk, format);
        disk.format();
        return disk;
    }

    /** Up to 320 STEPS come to the tape. */
    static int tape(ClickingDisk disk, int... steps) {
        int answer = disk.flux(0, 0, 0, 0, 0);
        for (int at = 0; at < steps.length; at += 20) {
            int[] five = new int[5];
            for (int i = 0; i < 20; i++) {
                five[i / 4] = five[i / 4] << 8 | (at + i < steps.length ? steps[at + i] : 0);
            }
            answer = disk.flux(five[0], five[1], five[2], five[3], five[4]);
        }
        return answer;
    }

    static String bitsOf(int value, int bits) {
        StringBuilder out = new StringBuilder();
        for (int i = bits - 1; i >= 0; i--) {
            out.append((char) ('0' + (value >> i & 1)));
        }
        return out.toString();
    }

    /** RAW bits of a mark and bytes with their clocks. */
    static String raw(int mark, int... bytes) {
        StringBuilder out = new StringBuilder(bitsOf(mark, 16));
        char ahead = out.charAt(15);
        for (int b : bytes) {
            for (char bit : bitsOf(b, 8).toCharArray()) {
                out.append(ahead == '0' && bit == '0' ? '1' : '0').append(bit);
                ahead = bit;
            }
        }
        return out.toString();
    }

    /** The same with so few clocks that at most seven bits 0 come in a row: more sectors find room on a tape. */
    static String sparse(int mark, int... bytes) {
        StringBuilder out = new StringBuilder(bitsOf(mark, 16));
        for (int b : bytes) {
            for (char bit : bitsOf(b, 8).toCharArray()) {
                int zeros = out.length() - 1 - out.lastIndexOf("1");
                out.append(zeros >= 6 ? '1' : '0').append(bit);
            }
        }
        return out.toString();
    }

    static String flip(String bits, int... places) {
        StringBuilder out = new StringBuilder(bits);
        for (int place : places) {
            out.setCharAt(place, bits.charAt(place) == '0' ? '1' : '0');
        }
        return out.toString();
    }

    static int[] times(int step, int count) {
        int[] row = new int[count];
        java.util.Arrays.fill(row, step);
        return row;
    }

    /** STEPS of RAW bits: one for each 1; bits behind the last 1 are lost. */
    static int[] steps(String raw, int cell) {
        List<Integer> out = new ArrayList<>();
        int since = 0;
        for (char bit : raw.toCharArray()) {
            since++;
            if (bit == '1') {
                out.add(Math.min(255, since * cell));
                since = 0;
            }
        }
        int[] row = new int[out.size()];
        for (int i = 0; i < row.length; i++) {
            row[i] = out.get(i);
        }
        return row;
    }

    /** A read of RAW bits (a 1 is put behind them, so that none is lost). */
    static int read(ClickingDisk disk, int drive, int cell, String raw) {
        tape(disk, steps(raw + "1", cell));
        return disk.read(drive);
    }

    /** The same bit by bit as a register: another way than the document's bytes. */
    static int crc(int turn, int start, int... bytes) {
        int register = start;
        for (int b : bytes) {
            for (int i = 7; i >= 0; i--) {
                boolean out = (register >> 15 & 1) != (b >> i & 1);
                register = register << 1 & 0xffff;
                if (out) {
                    register ^= turn;
                }
            }
        }
        return register;
    }
}
