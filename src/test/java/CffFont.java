import java.util.ArrayList;
import java.util.List;

/** Builds a font of the Compact Font Format. */
final class CffFont {
    final List<byte[]> letters = new ArrayList<>();
    final List<byte[]> locals = new ArrayList<>();
    final List<byte[]> globals = new ArrayList<>();
    private final List<byte[]> strings = new ArrayList<>();
    private int defaultWidth = 0;
    private int nominalWidth = 0;

    static CffFont of(String... programs) {
        CffFont font = new CffFont();
        for (String program : programs) {
            font.letters.add(Program.cff(program));
        }
        return font;
    }

    CffFont local(String program) {
        locals.add(Program.cff(program));
        return this;
    }

    CffFont global(String program) {
        globals.add(Program.cff(program));
        return this;
    }

    CffFont string(String text) {
        strings.add(Kit.ascii(text));
        return this;
    }

    CffFont widths(int theDefault, int theNominal) {
        defaultWidth = theDefault;
        nominalWidth = theNominal;
        return this;
    }

    byte[] build() {
        byte[] stringIndex = index(strings, 1);
        byte[] globalIndex = index(globals, 2);
        byte[] letterIndex = index(letters, 2);
        byte[] localIndex = index(locals, 2);
        int head = 4 + 6 + 22 + stringIndex.length + globalIndex.length;
        int lettersAt = head;
        int privateAt = head + letterIndex.length;
        byte[] privateDict = Kit.join(long29(defaultWidth), Kit.bytes(20), long29(nominalWidth), Kit.bytes(21));
        if (!locals.isEmpty()) {
            privateDict = Kit.join(privateDict, long29(privateDict.length + 6), Kit.bytes(19));
        }
        byte[] top = Kit.join(long29(lettersAt), Kit.bytes(17), long29(privateDict.length), long29(privateAt),
                Kit.bytes(18));
        byte[] font = Kit.join(Kit.bytes(1, 0, 4, 1), index(List.of(Kit.ascii("A")), 1), index(List.of(top), 1),
                stringIndex, globalIndex, letterIndex, privateDict);
        return locals.isEmpty() ? font : Kit.join(font, localIndex);
    }

    /** The least font: one letter (endchar), an empty PRIVATE at the end. */
    static byte[] least() {
        return withTop(Kit.bytes(29, 0, 0, 0, 36, 17, 29, 0, 0, 0, 0, 29, 0, 0, 0, 42, 18));
    }

    /** A font with this TOP, empty STRINGS and GLOBALS, and one letter behind them. */
    static byte[] withTop(byte[] top) {
        return Kit.join(Kit.bytes(1, 0, 4, 1, 0, 1, 1, 1, 2, 'A', 0, 1, 1, 1, 1 + top.length), top,
                Kit.bytes(0, 0, 0, 0), Kit.bytes(0, 1, 1, 1, 2, 14));
    }

    /** Where the letters of withTop(top) are. */
    private static int lettersAt(byte[] top) {
        return 15 + top.length + 4;
    }

    /** A font whose TOP has these bytes, then 17 for the letters. */
    static byte[] withAhead(int... ahead) {
        byte[] top = Kit.join(Kit.bytes(ahead), long29(0), Kit.bytes(17));
        return withTop(Kit.join(Kit.bytes(ahead), long29(lettersAt(top)), Kit.bytes(17)));
    }

    /** A font whose PRIVATE, at the tape's end, has these bytes, and is told by so many. */
    static byte[] withPrivate(int told, int... bytes) {
        byte[] top = Kit.join(long29(38), Kit.bytes(17), long29(told), long29(44), Kit.bytes(18), Kit.bytes(139, 2));
        return Kit.join(withTop(top), Kit.bytes(bytes));
    }

    static byte[] long29(int n) {
        return Kit.bytes(29, n >> 24, n >> 16, n >> 8, n);
    }

    static byte[] index(List<byte[]> objects, int size) {
        int n = objects.size();
        if (n == 0) {
            return Kit.bytes(0, 0);
        }
        byte[] row = Kit.bytes(n >> 8, n, size);
        int offset = 1;
        for (int k = 0; k <= n; k++) {
            byte[] told = new byte[size];
            for (int i = 0; i < size; i++) {
                told[i] = (byte) (offset >> 8 * (size - 1 - i));
            }
            row = Kit.join(row, told);
            offset += k < n ? objects.get(k).length : 0;
        }
        for (byte[] object : objects) {
            row = Kit.join(row, object);
        }
        return row;
    }
}
