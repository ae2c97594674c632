import java.util.List;

/** A font of the Compact Font Format by its raw parts, so that each of them can be put wrong. */
final class CffParts {
    byte[] header = Kit.bytes(1, 0, 4, 1);
    byte[] names = one(Kit.ascii("A"));

    /** The INDEX of tops; null: as it must be. */
    byte[] tops = null;

    /** What stands in TOP ahead of 17 and 18. */
    byte[] ahead = new byte[0];

    byte[] strings = Kit.bytes(0, 0);
    byte[] globals = Kit.bytes(0, 0);
    byte[] letters = one(Kit.bytes(14));
    byte[] privateDict = new byte[0];

    /** The INDEX of LOCALS behind PRIVATE; null: there is none. */
    byte[] locals = null;

    /** Places as they are told; null: as they are. */
    Integer lettersAt = null;
    Integer privateBytes = null;
    Integer privateAt = null;
    Integer localsAt = null;

    /** What stands behind all else. */
    byte[] behind = new byte[0];

    static byte[] one(byte[] object) {
        return CffFont.index(List.of(object), 1);
    }

    private static int told(Integer other, int right) {
        return other == null ? right : other;
    }

    private byte[] wholePrivate() {
        if (locals == null) {
            return privateDict;
        }
        int at = told(localsAt, privateDict.length + 6);
        return Kit.join(privateDict, CffFont.long29(at), Kit.bytes(19));
    }

    private byte[] top(int letterPlace, int privateSize, int privatePlace) {
        return Kit.join(ahead, CffFont.long29(letterPlace), Kit.bytes(17), CffFont.long29(privateSize),
                CffFont.long29(privatePlace), Kit.bytes(18));
    }

    private byte[] head(byte[] top) {
        return Kit.join(header, names, tops == null ? one(top) : tops, strings, globals);
    }

    byte[] build() {
        byte[] dict = wholePrivate();
        int at = head(top(0, 0, 0)).length;
        byte[] top = top(told(lettersAt, at), told(privateBytes, dict.length), told(privateAt, at + letters.length));
        return Kit.join(head(top), letters, dict, locals == null ? new byte[0] : locals, behind);
    }

    int fault() {
        return Kit.fault(0, build());
    }
}
