import java.util.ArrayList;
import java.util.List;
import java.util.function.Consumer;

/** Term II of the document, sentence by sentence. */
final class DocumentCff {
    private DocumentCff() {
    }

    static void walk(Walk walk) {
        walk.tells("II. CFF.");
        header(walk);
        index(walk);
        dict(walk);
        operands(walk);
        dictsEnd(walk);
        top(walk);
        privateDict(walk);
        faults(walk);
        byteByByte(walk);
    }

    private static void fault(String what, int due, Consumer<CffParts> change) {
        CffParts parts = new CffParts();
        change.accept(parts);
        Kit.due(what, parts.fault(), due);
    }

    private static CharstringPress read(Consumer<CffParts> change) {
        CffParts parts = new CffParts();
        change.accept(parts);
        CharstringPress press = new CharstringPress();
        Kit.due("read", Kit.read(press, 0, parts.build()), 0);
        return press;
    }

    private static void header(Walk walk) {
        walk.says("HEADER: U1 1, U1, U1 H (4 or more), U1 (1 to 4).");
        fault("as told", 0, p -> p.header = Kit.bytes(1, 255, 4, 4));
        fault("2", 2, p -> p.header = Kit.bytes(2, 0, 4, 1));
        fault("H 3", 2, p -> p.header = Kit.bytes(1, 0, 3, 1));
        fault("H 6", 0, p -> p.header = Kit.bytes(1, 0, 6, 1, 99, 99));
        fault("0 bytes an offset", 2, p -> p.header = Kit.bytes(1, 0, 4, 0));
        fault("5 bytes an offset", 2, p -> p.header = Kit.bytes(1, 0, 4, 5));
        walk.says("From byte H on four INDEXES, one behind the other: NAMES (one object), TOPS (one), STRINGS, GLOBALS.");
        fault("no name", 2, p -> p.names = Kit.bytes(0, 0));
        fault("two names", 2, p -> p.names = CffFont.index(List.of(new byte[1], new byte[1]), 1));
        fault("no top", 2, p -> p.tops = Kit.bytes(0, 0));
        fault("two tops", 2, p -> p.tops = CffFont.index(List.of(new byte[1], new byte[1]), 1));
        CharstringPress press = read(p -> {
            p.strings = CffFont.index(List.of(Kit.ascii("ab"), Kit.ascii("c")), 1);
            p.globals = CffFont.index(List.of(Kit.bytes(11), Kit.bytes(1, 11), Kit.bytes(2, 11)), 1);
        });
        Kit.due("three globals behind two strings", press.font(3), 3);
    }

    private static void index(Walk walk) {
        walk.says("An INDEX: U2 n; with n 0 that is all;");
        CharstringPress press = read(p -> p.locals = Kit.bytes(0, 0));
        Kit.due("no globals", press.font(3), 0);
        Kit.due("no locals", press.font(2), 0);
        walk.says("else U1 s (1 to 4), n + 1 offsets of s bytes, the first 1, none less than the one ahead,");
        for (int s = 1; s <= 4; s++) {
            int size = s;
            press = read(p -> p.globals = CffFont.index(List.of(Kit.bytes(7, 8), new byte[0], Kit.bytes(9)), size));
            Kit.due("s " + s + ", the first", Kit.code(press, 2, 0), "0708");
            Kit.due("s " + s + ", the second", Kit.code(press, 2, 1), "");
            Kit.due("s " + s + ", the third", Kit.code(press, 2, 2), "09");
        }
        fault("s 0", 2, p -> p.globals = Kit.bytes(0, 1, 0, 1, 1));
        fault("s 5", 2, p -> p.globals = Kit.bytes(0, 1, 5, 0, 0, 0, 0, 1, 0, 0, 0, 0, 1));
        fault("the first 0", 2, p -> p.globals = Kit.bytes(0, 1, 1, 0, 1));
        fault("the first 2", 2, p -> p.globals = Kit.bytes(0, 1, 1, 2, 2, 9));
        fault("less than the one ahead", 2, p -> p.globals = Kit.bytes(0, 2, 1, 1, 3, 2, 9, 9));
        walk.says("then the objects: the k-th are the bytes from the k-th offset (1: the first byte behind the offsets) "
                + "to the next one.");
        press = read(p -> p.letters = Kit.bytes(0, 3, 2, 0, 1, 0, 2, 0, 4, 0, 7, 10, 20, 30, 40, 50, 60));
        Kit.due("the first", Kit.code(press, 0, 0), "0a");
        Kit.due("the second", Kit.code(press, 0, 1), "141e");
        Kit.due("the third", Kit.code(press, 0, 2), "28323c");
    }

    private static void dict(Walk walk) {
        walk.says("A DICT: OPERANDS (48 at most ahead of each), then an OPERATOR: 0 to 21, or 12 and U1 b (told as 256 + b).");
        fault("48 ahead of 0", 0, p -> p.ahead = Kit.join("9".repeat(48).getBytes(), Kit.bytes(0)));
        fault("48 ahead of each of two", 0, p -> p.ahead = Kit.join("9".repeat(48).getBytes(), Kit.bytes(0),
                "9".repeat(48).getBytes(), Kit.bytes(1)));
        fault("49 ahead of 0", 2, p -> p.ahead = Kit.join("9".repeat(49).getBytes(), Kit.bytes(0)));
        for (int b = 0; b <= 31; b++) {
            int operator = b;
            if (b != 12 && b != 17 && b != 18 && (b < 28 || b > 30)) {
                fault("operator " + b, b <= 21 ? 0 : 2, p -> p.ahead = Kit.bytes(139, operator));
            }
        }
        for (int b = 0; b <= 255; b++) {
            int second = b;
            fault("12 and " + b, b == 6 ? 2 : 0, p -> p.ahead = Kit.bytes(139, 12, second));
        }
        fault("255", 2, p -> p.ahead = Kit.bytes(255, 0));
    }

    /** DEFAULT as these operands tell it. */
    private static int told(int... operands) {
        CharstringPress press = read(p -> p.privateDict = Kit.join(Kit.bytes(operands), Kit.bytes(20)));
        return press.font(4);
    }

    private static void operands(Walk walk) {
        walk.says("OPERANDS: 28 and two bytes, 29 and four (with sign): that INTEGER;");
        Kit.due("28", told(28, 0x12, 0x34), 0x1234);
        Kit.due("28, with sign", told(28, 0xff, 0xfe), -2);
        Kit.due("28, the least", told(28, 0x80, 0), -32768);
        Kit.due("29", told(29, 0x12, 0x34, 0x56, 0x78), 0x12345678);
        Kit.due("29, with sign", told(29, 0xff, 0xff, 0xff, 0xfd), -3);
        Kit.due("29, the least", told(29, 0x80, 0, 0, 0), Integer.MIN_VALUE);
        walk.says("32 to 246: b - 139; 247 to 250: (b - 247) * 256 + U1 + 108; 251 to 254: -(b - 251) * 256 - U1 - 108;");
        for (int b = 32; b <= 246; b++) {
            Kit.due("byte " + b, told(b), b - 139);
        }
        int[] seconds = {0, 1, 127, 128, 255};
        for (int second : seconds) {
            for (int b = 247; b <= 250; b++) {
                Kit.due(b + " and " + second, told(b, second), (b - 247) * 256 + second + 108);
            }
            for (int b = 251; b <= 254; b++) {
                Kit.due(b + " and " + second, told(b, second), -(b - 251) * 256 - second - 108);
            }
        }
        walk.says("30: a REAL: half bytes (the upper one first) up to one that is 15, none 13; no INTEGER.");
        fault("15 below", 0, p -> p.ahead = Kit.bytes(30, 0x1f, 5));
        fault("15 above: what is below is none", 0, p -> p.ahead = Kit.bytes(30, 0x12, 0xfd, 5));
        fault("all others", 0, p -> p.ahead = Kit.bytes(30, 0x01, 0x23, 0x45, 0x67, 0x89, 0xab, 0xce, 0xff, 5));
        fault("13 above", 2, p -> p.ahead = Kit.bytes(30, 0xd1, 0x1f, 5));
        fault("13 below", 2, p -> p.ahead = Kit.bytes(30, 0x1d, 0x1f, 5));
        fault("no 15", 2, p -> p.privateDict = Kit.bytes(30, 0x12, 0x14), p -> p.behind = Kit.bytes(0xff));
        fault("no INTEGER for 20", 2, p -> p.privateDict = Kit.bytes(30, 0x1f, 20));
        fault("no INTEGER for 262", 2, p -> p.ahead = Kit.bytes(30, 0x2f, 12, 6));
    }

    private static void fault(String what, int due, Consumer<CffParts> change, Consumer<CffParts> another) {
        fault(what, due, change.andThen(another));
    }

    private static void dictsEnd(Walk walk) {
        walk.says("It ends behind an OPERATOR.");
        fault("PRIVATE behind an operator", 0, p -> p.privateDict = Kit.bytes(139, 20));
        fault("PRIVATE behind an operand", 2, p -> p.privateDict = Kit.bytes(139, 20, 139), p -> p.behind = Kit.bytes(21));
        Kit.due("TOP behind an operand", Kit.fault(0, CffFont.withTop(Kit.bytes(29, 0, 0, 0, 26, 17, 139))), 2);
        walk.says("Each OPERATOR's OPERANDS count as it is told last;");
        Kit.due("DEFAULT", told(140, 20, 141, 142, 20, 29, 0, 0, 0, 7), 7);
        fault("wrong ones that are told ahead", 0, p -> p.privateDict = Kit.bytes(20, 30, 0xff, 20, 139, 139, 20, 150, 20));
        fault("wrong ones that are told last", 2, p -> p.privateDict = Kit.bytes(150, 20, 20));
        fault("262, the last is 2", 0, p -> p.ahead = Kit.bytes(140, 12, 6, 12, 6, 141, 12, 6));
        fault("262, the last is 1", 2, p -> p.ahead = Kit.bytes(141, 12, 6, 140, 12, 6));
        fault("LETTERS at 9999, then at their place", 0, p -> p.ahead = Kit.bytes(28, 0x27, 0x0f, 17));
        walk.says("those that are none of the following count nothing.");
        fault("others of TOP", 0, p -> p.ahead = Kit.bytes(0, 139, 1, 30, 0xff, 19, 139, 139, 20, 21, 12, 0, 12, 255));
        fault("others of PRIVATE", 0, p -> p.privateDict = Kit.bytes(17, 139, 18, 30, 0xff, 12, 6, 0, 139, 139, 5));
    }

    private static void top(Walk walk) {
        walk.says("TOP: 17 (one INTEGER: at that byte of the font the INDEX of LETTERS, 1 to 40), wanted;");
        List<byte[]> letters = new ArrayList<>();
        for (int n = 0; n <= 41; n++) {
            List<byte[]> all = List.copyOf(letters);
            fault(n + " letters", n >= 1 && n <= 40 ? 0 : 2, p -> p.letters = CffFont.index(all, 1));
            letters.add(Kit.bytes(14));
        }
        Kit.due("wanted", Kit.fault(0, CffFont.withTop(Kit.bytes(139, 5))), 2);
        Kit.due("wanted of an empty TOP", Kit.fault(0, CffFont.withTop(new byte[0])), 2);
        Kit.due("without an INTEGER", Kit.fault(0, CffFont.withTop(Kit.bytes(17))), 2);
        Kit.due("two", Kit.fault(0, CffFont.withTop(Kit.bytes(161, 161, 17))), 2);
        Kit.due("a REAL", Kit.fault(0, CffFont.withTop(Kit.bytes(30, 0x22, 0xff, 17))), 2);
        Kit.due("one", Kit.fault(0, CffFont.withTop(Kit.bytes(160, 17))), 0);
        walk.says("18 (two: how many bytes, and at which byte: the PRIVATE DICT), 262 (one: 2).");
        Kit.due("without 18", Kit.fault(0, CffFont.withAhead()), 0);
        Kit.due("18 of none", Kit.fault(0, CffFont.withAhead(18)), 2);
        Kit.due("18 of one", Kit.fault(0, CffFont.withAhead(139, 18)), 2);
        Kit.due("18 of three", Kit.fault(0, CffFont.withAhead(139, 139, 139, 18)), 2);
        Kit.due("18 of an INTEGER and a REAL", Kit.fault(0, CffFont.withAhead(139, 30, 0x0f, 18)), 2);
        Kit.due("18 of two", Kit.fault(0, CffFont.withAhead(139, 139, 18)), 0);
        CharstringPress press = read(p -> {
            p.privateDict = Kit.bytes(150, 20, 160, 21);
            p.behind = Kit.bytes(170, 20);
        });
        Kit.due("so many bytes, at that byte: DEFAULT", press.font(4), 11);
        Kit.due("NOMINAL", press.font(5), 21);
        Kit.due("262 of 2", Kit.fault(0, CffFont.withAhead(141, 12, 6)), 0);
        Kit.due("262 of 1", Kit.fault(0, CffFont.withAhead(140, 12, 6)), 2);
        Kit.due("262 of none", Kit.fault(0, CffFont.withAhead(12, 6)), 2);
        Kit.due("262 of two", Kit.fault(0, CffFont.withAhead(141, 141, 12, 6)), 2);
    }

    private static void privateDict(Walk walk) {
        walk.says("PRIVATE: 19 (one: the INDEX of LOCALS, that many bytes behind the begin of PRIVATE), 20 DEFAULT, "
                + "21 NOMINAL (one each; 0 without).");
        CharstringPress press = read(p -> {
            p.privateDict = Kit.bytes(1, 139, 5);
            p.locals = CffFont.index(List.of(Kit.bytes(11), Kit.bytes(7, 11)), 1);
        });
        Kit.due("two locals", press.font(2), 2);
        Kit.due("the second", Kit.code(press, 1, 1), "070b");
        Kit.due("no DEFAULT", press.font(4), 0);
        Kit.due("no NOMINAL", press.font(5), 0);
        press = new CharstringPress();
        Kit.due("LETTERS as LOCALS, ahead of PRIVATE", Kit.read(press, 0, CffFont.withPrivate(2, 133, 19)), 0);
        Kit.due("the letter as a local", Kit.code(press, 1, 0), "0e");
        Kit.due("without PRIVATE: LOCALS", read(p -> { }).font(2), 0);
        for (int operator = 19; operator <= 21; operator++) {
            int b = operator;
            fault(b + " of none", 2, p -> p.privateDict = Kit.bytes(b));
            fault(b + " of two", 2, p -> p.privateDict = Kit.bytes(139, 139, b));
            fault(b + " of a REAL", 2, p -> p.privateDict = Kit.bytes(30, 0x0f, b));
        }
        fault("20 and 21 of one", 0, p -> p.privateDict = Kit.bytes(139, 20, 140, 21));
    }

    /** Each part put wrong, in the order of reading: beyond the TAPE where the first digit is 1. */
    private static void faults(Walk walk) {
        walk.says("FAULTS, the first one in this order of reading: HEADER, the INDEXES, TOP, LETTERS, PRIVATE, LOCALS (each "
                + "when its own turn comes): 1 it goes beyond the TAPE (a place below 0 also); 2 it is not as told.");
        List<Consumer<CffParts>> wrong = List.of(p -> p.header = Kit.bytes(1, 0, 4, 9), p -> p.names = Kit.bytes(0, 0),
                p -> p.globals = Kit.bytes(0, 1, 9), p -> p.ahead = Kit.bytes(22), p -> p.lettersAt = 1499,
                p -> p.privateAt = -1, p -> {
                    p.locals = Kit.bytes(0, 1, 0);
                });
        int[] due = {2, 2, 2, 2, 1, 1, 2};
        for (int first = 0; first < due.length; first++) {
            int ahead = first;
            fault("part " + first, due[first], wrong.get(first));
            for (int later = first + 1; later < due.length; later++) {
                fault("part " + first + " ahead of " + later, due[first], wrong.get(ahead), wrong.get(later));
            }
        }
        fault("LETTERS below 0", 1, p -> p.lettersAt = -1);
        fault("LETTERS beyond", 1, p -> p.lettersAt = Integer.MAX_VALUE);
        fault("PRIVATE far below 0", 1, p -> p.privateAt = Integer.MIN_VALUE);
        fault("PRIVATE beyond", 1, p -> p.privateAt = 1500);
        fault("LOCALS below 0", 1, p -> {
            p.locals = new byte[0];
            p.localsAt = -1000;
        });
        fault("LOCALS beyond", 1, p -> {
            p.locals = new byte[0];
            p.localsAt = 1000;
        });
    }

    private static void byteByByte(Walk walk) {
        walk.says("(A part is read byte by byte: the one that comes first; what goes beyond a DICT's own bytes, but not "
                + "beyond the TAPE, is 2.");
        Kit.due("a wrong byte at the TAPE's end", Kit.fault(0, Kit.bytes(7)), 2);
        Kit.due("an offset that is wrong ahead of the TAPE's end", Kit.fault(0, Kit.bytes(1, 0, 4, 1, 0, 1, 1, 2)), 2);
        Kit.due("the TAPE's end ahead of an offset", Kit.fault(0, Kit.bytes(1, 0, 4, 1, 0, 1, 2, 0)), 1);
        Kit.due("PRIVATE: a wrong byte, then the TAPE's end", Kit.fault(0, CffFont.withPrivate(9, 22)), 2);
        Kit.due("PRIVATE: the TAPE's end", Kit.fault(0, CffFont.withPrivate(9, 139, 20)), 1);
        int[][] cut = {{28}, {28, 0}, {29, 0, 0, 0}, {247}, {254}, {30}, {30, 0x12}, {12}, {139, 12}};
        for (int[] bytes : cut) {
            byte[] font = CffFont.withPrivate(bytes.length, bytes);
            Kit.due("cut at the TAPE's end: " + Kit.hex(Kit.bytes(bytes)), Kit.fault(0, font), 1);
            font = Kit.join(font, Kit.bytes(0xff, 20, 20, 20, 20, 20));
            Kit.due("cut at the DICT's end: " + Kit.hex(Kit.bytes(bytes)), Kit.fault(0, font), 2);
        }
        walk.says("An INDEX is there as its last object is; how many it must have is asked as soon as that is read.)");
        fault("LETTERS whose last object ends the TAPE", 0, p -> p.letters = Kit.bytes(0, 1, 1, 1, 3, 1, 14));
        fault("whose last object goes beyond it", 1, p -> p.letters = Kit.bytes(0, 1, 1, 1, 4, 1, 14));
        fault("whose first one does", 1, p -> p.letters = Kit.bytes(0, 2, 1, 1, 9, 9, 1, 14));
        Kit.due("names: two, and no more bytes", Kit.fault(0, Kit.bytes(1, 0, 4, 1, 0, 2)), 2);
        fault("letters: 41, and no more bytes", 2, p -> p.letters = Kit.bytes(0, 41));
        fault("letters: none", 2, p -> p.letters = Kit.bytes(0, 0));
        fault("letters: 40, and no more bytes", 1, p -> p.letters = Kit.bytes(0, 40));
    }
}
