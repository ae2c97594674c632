import java.util.Random;

/** What the tests share: answers that are due, bytes onto a tape, an outline as text. */
final class Kit {
    private static int wrong = 0;
    private static int asked = 0;

    private Kit() {
    }

    static void due(String what, long got, long want) {
        asked++;
        if (got != want) {
            wrong++;
            System.out.println(what + " answered " + got + ", due is " + want);
        }
    }

    static void due(String what, String got, String want) {
        asked++;
        if (!got.equals(want)) {
            wrong++;
            System.out.println(what + " answered\n  " + got + "\ndue is\n  " + want);
        }
    }

    /** Ends a test: exit code 1 if an answer was wrong. */
    static void close(String name) {
        System.out.println(name + ": " + asked + " answers, " + wrong + " not as due");
        if (wrong != 0 || asked == 0) {
            System.exit(1);
        }
    }

    static byte[] bytes(int... values) {
        byte[] row = new byte[values.length];
        for (int i = 0; i < values.length; i++) {
            row[i] = (byte) values[i];
        }
        return row;
    }

    static byte[] ascii(String text) {
        byte[] row = new byte[text.length()];
        for (int i = 0; i < row.length; i++) {
            row[i] = (byte) text.charAt(i);
        }
        return row;
    }

    static byte[] join(byte[]... rows) {
        int size = 0;
        for (byte[] row : rows) {
            size += row.length;
        }
        byte[] all = new byte[size];
        int at = 0;
        for (byte[] row : rows) {
            System.arraycopy(row, 0, all, at, row.length);
            at += row.length;
        }
        return all;
    }

    static byte[] times(int n, byte[] row) {
        byte[] all = new byte[0];
        for (int i = 0; i < n; i++) {
            all = join(all, row);
        }
        return all;
    }

    static byte[] random(Random source, int size) {
        byte[] row = new byte[size];
        source.nextBytes(row);
        return row;
    }

    /** The tape, which must be empty, has these bytes then. */
    static void feed(CharstringPress press, byte[] bytes) {
        for (int at = 0; at < bytes.length; at += 20) {
            press.feed(word(bytes, at), word(bytes, at + 4), word(bytes, at + 8),
                    word(bytes, at + 12), word(bytes, at + 16));
        }
        press.end(bytes.length);
    }

    private static int word(byte[] bytes, int at) {
        int word = 0;
        for (int i = at; i < at + 4; i++) {
            word = word << 8 | (i < bytes.length ? bytes[i] & 255 : 0);
        }
        return word;
    }

    static int read(CharstringPress press, int family, byte[] bytes) {
        feed(press, bytes);
        return press.read(family);
    }

    /** The font's fault, on a new object. */
    static int fault(int family, byte[] bytes) {
        return read(new CharstringPress(), family, bytes);
    }

    static byte[] cipher(byte[] bytes, int key) {
        byte[] row = new byte[bytes.length];
        int turning = key;
        for (int i = 0; i < bytes.length; i++) {
            int octet = (bytes[i] & 255) ^ (turning >> 8);
            row[i] = (byte) octet;
            turning = (octet + turning) * 52845 + 22719 & 65535;
        }
        return row;
    }

    static String hex(byte[] bytes) {
        StringBuilder text = new StringBuilder();
        for (byte octet : bytes) {
            text.append(String.format("%02x", octet & 255));
        }
        return text.toString();
    }

    /** A program's bytes as the press has them. */
    static String code(CharstringPress press, int sort, int k) {
        StringBuilder text = new StringBuilder();
        for (int i = 0; i <= 1500 && press.code(sort, k, i) != CharstringPress.NONE; i++) {
            text.append(String.format("%02x", press.code(sort, k, i)));
        }
        return text.toString();
    }

    /** All parts: M x y, L x y, C x y x y x y, Z. */
    static String outline(CharstringPress press) {
        StringBuilder text = new StringBuilder();
        for (int i = 0; press.part(i) != CharstringPress.NONE; i++) {
            int kind = press.part(i);
            text.append(i == 0 ? "" : " ").append("MLCZ".charAt(kind));
            int points = kind == 3 ? 0 : kind == 2 ? 3 : 1;
            for (int k = 0; k < points; k++) {
                text.append(' ').append(fixed(press.at(i, k, 0)));
                text.append(' ').append(fixed(press.at(i, k, 1)));
            }
        }
        return text.toString();
    }

    /** A FIXED number as text: a whole one plainly, another with its 65536ths. */
    static String fixed(long number) {
        long whole = Math.floorDiv(number, 65536L);
        long rest = Math.floorMod(number, 65536L);
        return rest == 0 ? String.valueOf(whole) : whole + "+" + rest;
    }

    /** What draw() came to: fault, PARTS, STEPS, HINTS, bytes, WIDTH. */
    static String came(CharstringPress press, int fault) {
        return "fault " + fault + " parts " + press.drawn(0) + " steps " + press.drawn(1) + " hints "
                + press.drawn(2) + " bytes " + press.drawn(3) + " width " + fixed(press.width());
    }
}
