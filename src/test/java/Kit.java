import java.util.Arrays;
import java.util.Random;

/** What the tests share: answers that are due, bytes onto a tape, an outline as text. */
final class Kit {
    private static int wrong = 0;
    private static int asked = 0;

    /** The document's sentence that the answers are due by; empty where none was told. */
    private static String sentence = "";

    private Kit() {
    }

    /** What is due behind this is due by that sentence of the document, and is told with it. */
    static void sentence(String text) {
        sentence = text;
    }

    static void due(String what, long got, long want) {
        asked++;
        if (got != want) {
            wrong(what + " answered " + got + ", due is " + want);
        }
    }

    private static void wrong(String told) {
        wrong++;
        System.out.println(sentence.isEmpty() ? told : told + "\n  by: " + sentence);
    }

    static void due(String what, String got, String want) {
        asked++;
        if (!got.equals(want)) {
            wrong(what + " answered\n  " + got + "\ndue is\n  " + want);
        }
    }

    /** How many answers have been due so far. */
    static int asked() {
        return asked;
    }

    /** Ends a test: exit code 1 if an answer was wrong. */
    static void close(String name) {
        System.out.println(name + ": " + asked + " answers, " + wrong + " not as due");
        if (wrong != 0 || asked == 0) {
            System.exit(1);
        }
    }

    static byte[] bytes(int... values) {
        byte[] row = new byte[values.length];
        for (int i = 0; i < values.length; i++) {
            row[i] = (byte) values[i];
        }
        return row;
    }

    static byte[] ascii(String text) {
        byte[] row = new byte[text.length()];
        for (int i = 0; i < row.length; i++) {
            row[i] = (byte) text.charAt(i);
        }
        return row;
    }

    static byte[] join(byte[]... rows) {
        int size = 0;
        for (byte[] row : rows) {
            size += row.length;
        }
        byte[] all = new byte[size];
        int at = 0;
        for (byte[] row : rows) {
            System.arraycopy(row, 0, all, at, row.length);
            at += row.length;
        }
        return all;
    }

    static byte[] with(byte[] row, int at, int value) {
        byte[] changed = row.clone();
        changed[at] = (byte) value;
        return changed;
    }

    static byte[] cut(byte[] row, int n) {
        return Arrays.copyOf(row, n);
    }

    static byte[] random(Random source, int size) {
        byte[] row = new byte[size];
        source.nextBytes(row);
        return row;
    }

    /** The tape, which must be empty, has these bytes then. */
    static void feed(CharstringPress press, byte[] bytes) {
        for (int at = 0; at < bytes.length; at += 20) {
            press.feed(word(bytes, at), word(bytes, at + 4), word(bytes, at + 8),
                    word(bytes, at + 12), word(bytes, at + 16));
        }
        press.end(bytes.length);
    }

    private static int word(byte[] bytes, int at) {
        int word = 0;
        for (int i = at; i < at + 4; i++) {
            word = word << 8 | (i < bytes.length ? bytes[i] & 255 : 0);
        }
        return word;
    }

    static int read(CharstringPress press, int family, byte[] bytes) {
        feed(press, bytes);
        return press.read(family);
    }

    /** The font's fault, on a new object. */
    static int fault(int family, byte[] bytes) {
        return read(new CharstringPress(), family, bytes);
    }

    static byte[] cipher(byte[] bytes, int key) {
        byte[] row = new byte[bytes.length];
        int turning = key;
        for (int i = 0; i < bytes.length; i++) {
            int octet = (bytes[i] & 255) ^ (turning >> 8);
            row[i] = (byte) octet;
            turning = (octet + turning) * 52845 + 22719 & 65535;
        }
        return row;
    }

    static String hex(byte[] bytes) {
        StringBuilder text = new StringBuilder();
        for (byte octet : bytes) {
            text.append(String.format("%02x", octet & 255));
        }
        return text.toString();
    }

    /** A program's bytes as the press has them. */
    static String code(CharstringPress press, int sort, int k) {
        StringBuilder text = new StringBuilder();
        for (int i = 0; i <= 1500 && press.code(sort, k, i) != CharstringPress.NONE; i++) {
            text.append(String.format("%02x", press.code(sort, k, i)));
        }
        return text.toString();
    }

    /** All parts: M x y, L x y, C x y x y x y, Z. */
    static String outline(CharstringPress press) {
        StringBuilder text = new StringBuilder();
        for (int i = 0; press.part(i) != CharstringPress.NONE; i++) {
            int kind = press.part(i);
            text.append(i == 0 ? "" : " ").append("MLCZ".charAt(kind));
            int points = kind == 3 ? 0 : kind == 2 ? 3 : 1;
            for (int k = 0; k < points; k++) {
                text.append(' ').append(fixed(press.at(i, k, 0)));
                text.append(' ').append(fixed(press.at(i, k, 1)));
            }
        }
        return text.toString();
    }

    /** A FIXED number as text: a whole one plainly, another with its 65536ths. */
    static String fixed(long number) {
        long whole = Math.floorDiv(number, 65536L);
        long rest = Math.floorMod(number, 65536L);
        return rest == 0 ? String.valueOf(whole) : whole + "+" + rest;
    }

    /** All that can be asked without a change: what a refused call must leave as it was. */
    static String state(CharstringPress press) {
        StringBuilder text = new StringBuilder("font");
        for (int what = 0; what <= 5; what++) {
            text.append(' ').append(press.font(what));
        }
        for (int sort = 0; sort <= 2; sort++) {
            for (int k = 0; k < 3; k++) {
                text.append(" | ").append(code(press, sort, k));
            }
        }
        text.append(" drawn ").append(came(press, 0)).append(' ').append(outline(press));
        text.append(" tape ").append(press.count(0)).append(" out ").append(press.count(1)).append(' ').append(out(press));
        return text.toString();
    }

    /** OUT's bytes. */
    static String out(CharstringPress press) {
        StringBuilder text = new StringBuilder();
        for (int i = 0; i < press.count(1); i++) {
            text.append(String.format("%02x", press.octet(i)));
        }
        return text.toString();
    }

    /** The TAPE's bytes, which go by way of OUT: the TAPE is empty then. */
    static String tape(CharstringPress press) {
        press.cipher(4711, 0);
        press.back();
        press.plain(4711, 0);
        return out(press);
    }

    /** What draw() came to: fault, PARTS, STEPS, HINTS, bytes, WIDTH. */
    static String came(CharstringPress press, int fault) {
        return "fault " + fault + " parts " + press.drawn(0) + " steps " + press.drawn(1) + " hints "
                + press.drawn(2) + " bytes " + press.drawn(3) + " width " + fixed(press.width());
    }
}
