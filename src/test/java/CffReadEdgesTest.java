import java.util.ArrayList;
import java.util.Arrays;
import java.util.List;
import java.util.function.Consumer;

/** The edges of term II: each sentence that names one, by itself; the FAULTS, each in its order. */
public final class CffReadEdgesTest {
    private static final int NONE = CharstringPress.NONE;
    private static final int LEAST = Integer.MIN_VALUE;
    private static final int GREATEST = Integer.MAX_VALUE;

    private CffReadEdgesTest() {
    }

    public static void main(String[] args) {
        header();
        headerByteByByte();
        indexesBehindTheHeader();
        emptyIndexes();
        indexNumbers();
        offsets();
        offsetsOfEachSize();
        objects();
        lastObject();
        howManyAtOnce();
        operandsMost();
        operators();
        operands();
        operandsCut();
        reals();
        dictEnds();
        toldLast();
        countNothing();
        lettersWanted();
        lettersAtTheirPlace();
        privateTwo();
        kindTwo();
        privateOperators();
        localsBehindPrivate();
        beyondTheTape();
        placesBelowZero();
        beyondTheDict();
        ownTurn();
        order();
        nothingIsLeft();
        Kit.close("CffReadEdgesTest");
    }

    private static CffParts parts(Consumer<CffParts> change) {
        CffParts parts = new CffParts();
        change.accept(parts);
        return parts;
    }

    private static void fault(String what, int due, Consumer<CffParts> change) {
        Kit.due(what, parts(change).fault(), due);
    }

    private static byte[] filled(int n, int value) {
        byte[] row = new byte[n];
        Arrays.fill(row, (byte) value);
        return row;
    }

    private static void header() {
        Kit.sentence("HEADER: U1 1, U1, U1 H (4 or more), U1 (1 to 4).");
        for (int value = 0; value <= 255; value++) {
            int v = value;
            fault("the first byte " + v, v == 1 ? 0 : 2, p -> p.header[0] = (byte) v);
            fault("the second byte " + v, 0, p -> p.header[1] = (byte) v);
            fault("the fourth byte " + v, v >= 1 && v <= 4 ? 0 : 2, p -> p.header[3] = (byte) v);
        }
        for (int h = 0; h < 4; h++) {
            int v = h;
            fault("H " + v, 2, p -> p.header[2] = (byte) v);
        }
        for (int h = 4; h <= 255; h++) {
            int v = h;
            fault("H " + v, 0, p -> p.header = Kit.with(Kit.join(p.header, filled(v - 4, 99)), 2, v));
        }
    }

    private static void headerByteByByte() {
        Kit.sentence("(A part is read byte by byte: the one that comes first)");
        byte[] right = Kit.bytes(1, 0, 4, 1);
        for (int n = 0; n < 4; n++) {
            Kit.due("the header's first " + n, Kit.fault(0, Kit.cut(right, n)), 1);
        }
        Kit.due("the first byte is wrong, and no more", Kit.fault(0, Kit.bytes(0)), 2);
        Kit.due("the first byte is wrong, and one more", Kit.fault(0, Kit.bytes(2, 0)), 2);
        Kit.due("H is wrong, and no more", Kit.fault(0, Kit.bytes(1, 0, 3)), 2);
        Kit.due("the fourth is wrong, and no more", Kit.fault(0, Kit.bytes(1, 0, 4, 5)), 2);
        Kit.due("H goes beyond, but the fourth comes first", Kit.fault(0, Kit.bytes(1, 0, 255, 0)), 2);
    }

    private static void indexesBehindTheHeader() {
        Kit.sentence("From byte H on four INDEXES, one behind the other");
        Kit.due("H at the tape's end", Kit.fault(0, Kit.bytes(1, 0, 4, 1)), 1);
        Kit.due("H behind the tape's end", Kit.fault(0, Kit.bytes(1, 0, 5, 1)), 1);
        Kit.due("H far behind the tape's end", Kit.fault(0, Kit.bytes(1, 0, 255, 1)), 1);
        byte[] font = parts(p -> { }).build();
        for (int n = 4; n < font.length; n++) {
            Kit.due("the font's first " + n, Kit.fault(0, Kit.cut(font, n)), 1);
        }
        Kit.due("the whole font", Kit.fault(0, font), 0);
        fault("bytes behind it count nothing", 0, p -> p.behind = filled(300, 255));
    }

    private static void emptyIndexes() {
        Kit.sentence("An INDEX: U2 n; with n 0 that is all");
        CharstringPress press = new CharstringPress();
        Kit.due("no STRINGS, no GLOBALS", Kit.read(press, 0, parts(p -> { }).build()), 0);
        Kit.due("no GLOBALS", press.font(3), 0);
        fault("no LOCALS at the tape's end", 0, p -> p.locals = Kit.bytes(0, 0));
        fault("half a number at the tape's end", 1, p -> p.locals = Kit.bytes(0));
        fault("behind n 0 nothing of it", 0, p -> {
            p.locals = Kit.bytes(0, 0);
            p.behind = Kit.bytes(9, 9, 9);
        });
    }

    private static void indexNumbers() {
        Kit.sentence("NAMES (one object), TOPS (one), STRINGS, GLOBALS.");
        fault("no name", 2, p -> p.names = Kit.bytes(0, 0));
        fault("two names", 2, p -> p.names = CffFont.index(List.of(new byte[1], new byte[1]), 1));
        fault("257 names", 2, p -> p.names = Kit.with(p.names, 0, 1));
        fault("a name of no bytes", 0, p -> p.names = CffParts.one(new byte[0]));
        fault("no top", 2, p -> p.tops = Kit.bytes(0, 0));
        fault("two tops", 2, p -> p.tops = CffFont.index(List.of(new byte[1], new byte[1]), 1));
        fault("a top of no bytes", 2, p -> p.tops = CffParts.one(new byte[0]));
        fault("a string", 0, p -> p.strings = CffParts.one(new byte[3]));
        fault("300 strings", 0, p -> p.strings = Kit.join(Kit.bytes(1, 44, 1), filled(301, 1)));
        fault("300 globals", 0, p -> p.globals = Kit.join(Kit.bytes(1, 44, 1), filled(301, 1)));
        fault("300 locals", 0, p -> p.locals = Kit.join(Kit.bytes(1, 44, 1), filled(301, 1)));
    }

    /** Each INDEX but TOPS, with one object, put by one of these. */
    private static void eachIndex(String what, int due, byte[] index) {
        fault("NAMES: " + what, due, p -> p.names = index);
        fault("STRINGS: " + what, due, p -> p.strings = index);
        fault("GLOBALS: " + what, due, p -> p.globals = index);
        fault("LETTERS: " + what, due, p -> p.letters = index);
        fault("LOCALS: " + what, due, p -> p.locals = index);
    }

    private static void offsets() {
        Kit.sentence("else U1 s (1 to 4), n + 1 offsets of s bytes, the first 1, none less than the one ahead");
        eachIndex("offsets of 0 bytes", 2, Kit.bytes(0, 1, 0, 1, 2, 9));
        eachIndex("offsets of 5 bytes", 2, Kit.bytes(0, 1, 5, 0, 0, 0, 0, 1, 0, 0, 0, 0, 2, 9));
        eachIndex("offsets of 255 bytes", 2, Kit.bytes(0, 1, 255, 1, 2, 9));
        eachIndex("the first offset 0", 2, Kit.bytes(0, 1, 1, 0, 2, 9));
        eachIndex("the first offset 2", 2, Kit.bytes(0, 1, 1, 2, 3, 9, 9));
        eachIndex("the first offset 257", 2, Kit.bytes(0, 1, 2, 1, 1, 1, 2, 9));
        eachIndex("the second offset 0", 2, Kit.bytes(0, 1, 1, 1, 0, 9));
        eachIndex("the second offset as the first", 0, Kit.bytes(0, 1, 1, 1, 1));
        byte[] three = Kit.bytes(0, 3, 1, 1, 3, 3, 3, 9, 9);
        fault("equal ones", 0, p -> p.strings = three);
        fault("a third one less", 2, p -> p.strings = Kit.with(three, 5, 2));
        fault("a fourth one less", 2, p -> p.globals = Kit.with(three, 6, 2));
        fault("a third one less, of letters", 2, p -> p.letters = Kit.with(three, 5, 2));
        fault("a fourth one less, of locals", 2, p -> p.locals = Kit.with(three, 6, 2));
        fault("a third above the fourth", 2, p -> p.locals = Kit.with(three, 5, 4));
        Kit.sentence("(A part is read byte by byte: the one that comes first)");
        fault("s is wrong, and no more", 2, p -> p.locals = Kit.bytes(0, 1, 0));
        fault("s is there, and no more", 1, p -> p.locals = Kit.bytes(0, 1, 1));
        fault("the first offset is wrong, and no more", 2, p -> p.locals = Kit.bytes(0, 1, 1, 2));
        fault("the first offset is there, and no more", 1, p -> p.locals = Kit.bytes(0, 1, 1, 1));
        fault("half of a second offset", 1, p -> p.locals = Kit.bytes(0, 1, 2, 0, 1, 0));
        fault("a second offset less, and no more", 2, p -> p.locals = Kit.bytes(0, 2, 2, 0, 1, 0, 0));
    }

    private static void offsetsOfEachSize() {
        Kit.sentence("U1 s (1 to 4), n + 1 offsets of s bytes");
        for (int s = 1; s <= 4; s++) {
            byte[] index = CffFont.index(List.of(Kit.bytes(14), new byte[0], Kit.bytes(140, 14)), s);
            CffParts parts = parts(p -> p.letters = index);
            parts.globals = index;
            parts.locals = index;
            CharstringPress press = new CharstringPress();
            Kit.due("offsets of " + s, Kit.read(press, 0, parts.build()), 0);
            for (int sort = 0; sort <= 2; sort++) {
                Kit.due("sort " + sort, Kit.code(press, sort, 0) + "|" + Kit.code(press, sort, 1) + "|"
                        + Kit.code(press, sort, 2) + "|" + Kit.code(press, sort, 3), "0e||8c0e|");
                Kit.due("sort " + sort, press.font(sort == 0 ? 1 : sort == 1 ? 2 : 3), 3);
            }
        }
    }

    private static void objects() {
        Kit.sentence("the k-th are the bytes from the k-th offset (1: the first byte behind the offsets) to the next one.");
        byte[] big = filled(700, 14);
        big[299] = 33;
        big[300] = 34;
        CffParts parts = parts(p -> p.letters = CffFont.index(List.of(Arrays.copyOf(big, 300),
                Arrays.copyOfRange(big, 300, 700)), 2));
        CharstringPress press = new CharstringPress();
        Kit.due("objects of 300 and 400 bytes", Kit.read(press, 0, parts.build()), 0);
        Kit.due("the last of the first", press.code(0, 0, 299), 33);
        Kit.due("none behind it", press.code(0, 0, 300), NONE);
        Kit.due("the first of the second", press.code(0, 1, 0), 34);
        Kit.due("the last of the second", press.code(0, 1, 399), 14);
        Kit.due("none behind it", press.code(0, 1, 400), NONE);
    }

    private static void lastObject() {
        Kit.sentence("An INDEX is there as its last object is");
        byte[] two = Kit.bytes(0, 2, 1, 1, 2, 3, 14, 14);
        fault("to the tape's end", 0, p -> p.locals = two);
        fault("one beyond the tape's end", 1, p -> p.locals = Kit.with(two, 5, 4));
        fault("one byte less", 1, p -> p.locals = Kit.cut(two, 7));
        fault("the first object beyond, the last too", 1, p -> p.locals = Kit.with(Kit.with(two, 4, 9), 5, 9));
        fault("the first object beyond, then a lesser offset", 2, p -> p.locals = Kit.with(two, 4, 9));
        fault("an offset of 32 bits", 1, p -> p.locals = Kit.bytes(0, 1, 4, 0, 0, 0, 1, 255, 255, 255, 255, 14));
        fault("an offset of 31 bits", 1, p -> p.strings = Kit.bytes(0, 1, 4, 0, 0, 0, 1, 127, 255, 255, 255, 14));
        byte[] wide = Kit.bytes(0, 1, 4, 0, 0, 0, 1, 128, 0, 0, 0, 14);
        eachIndex("an offset with its highest bit", 1, wide);
        fault("then a lesser one", 2, p -> p.strings = Kit.bytes(0, 2, 4, 0, 0, 0, 1, 128, 0, 0, 0, 127, 0, 0, 0, 14));
    }

    private static void howManyAtOnce() {
        Kit.sentence("how many it must have is asked as soon as that is read.");
        byte[] head = Kit.bytes(1, 0, 4, 1);
        Kit.due("no name, and no more", Kit.fault(0, Kit.join(head, Kit.bytes(0, 0))), 2);
        Kit.due("two names, and no more", Kit.fault(0, Kit.join(head, Kit.bytes(0, 2))), 2);
        Kit.due("one name, and no more", Kit.fault(0, Kit.join(head, Kit.bytes(0, 1))), 1);
        byte[] named = Kit.join(head, CffParts.one(Kit.ascii("A")));
        Kit.due("no top, and no more", Kit.fault(0, Kit.join(named, Kit.bytes(0, 0))), 2);
        Kit.due("two tops, and no more", Kit.fault(0, Kit.join(named, Kit.bytes(0, 2))), 2);
        Kit.due("one top, and no more", Kit.fault(0, Kit.join(named, Kit.bytes(0, 1))), 1);
        byte[] font = parts(p -> p.privateAt = 0).build();
        byte[] cut = Kit.cut(font, font.length - 6);
        Kit.due("no letter, and no more", Kit.fault(0, Kit.join(cut, Kit.bytes(0, 0))), 2);
        Kit.due("41 letters, and no more", Kit.fault(0, Kit.join(cut, Kit.bytes(0, 41))), 2);
        Kit.due("65535 letters, and no more", Kit.fault(0, Kit.join(cut, Kit.bytes(255, 255))), 2);
        Kit.due("40 letters, and no more", Kit.fault(0, Kit.join(cut, Kit.bytes(0, 40))), 1);
        Kit.due("one letter, and no more", Kit.fault(0, Kit.join(cut, Kit.bytes(0, 1))), 1);
        fault("65535 strings, and no more", 1, p -> p.locals = Kit.bytes(255, 255));
    }

    private static void operandsMost() {
        Kit.sentence("OPERANDS (48 at most ahead of each)");
        byte[][] kinds = {Kit.bytes(139), Kit.bytes(247, 0), Kit.bytes(254, 0), Kit.bytes(28, 0, 0),
            Kit.bytes(29, 0, 0, 0, 0), Kit.bytes(30, 255)};
        for (byte[] kind : kinds) {
            byte[] most = new byte[0];
            for (int i = 0; i < 48; i++) {
                most = Kit.join(most, kind.length > 3 ? Kit.bytes(139) : kind);
            }
            byte[] full = most;
            fault("48 of " + Kit.hex(kind), 0, p -> p.privateDict = Kit.join(full, Kit.bytes(0)));
            fault("a 49th", 2, p -> p.privateDict = Kit.join(full, kind, Kit.bytes(0)));
            fault("48 again behind an operator", 0, p -> p.privateDict = Kit.join(full, Kit.bytes(12, 0), full,
                    Kit.bytes(11)));
        }
        byte[] ones = filled(48, 139);
        fault("48 in TOP", 0, p -> p.ahead = Kit.join(ones, Kit.bytes(0)));
        fault("49 in TOP", 2, p -> p.ahead = Kit.join(ones, Kit.bytes(139, 0)));
        fault("no operands", 0, p -> p.privateDict = Kit.bytes(0));
    }

    private static void operators() {
        Kit.sentence("then an OPERATOR: 0 to 21, or 12 and U1 b (told as 256 + b).");
        for (int b = 0; b <= 31; b++) {
            int v = b;
            boolean counts = v >= 19 && v <= 21;
            boolean operand = v >= 28 && v <= 30;
            if (v != 12 && !operand) {
                fault("byte " + v + " in PRIVATE", v <= 21 && !counts ? 0 : 2, p -> p.privateDict = Kit.bytes(v));
            }
        }
        fault("byte 255 in PRIVATE", 2, p -> p.privateDict = Kit.bytes(255));
        for (int b = 0; b <= 255; b++) {
            int v = b;
            fault("12 and " + v + " in PRIVATE", 0, p -> p.privateDict = Kit.bytes(12, v));
            fault("12 and " + v + " in TOP", v == 6 ? 2 : 0, p -> p.ahead = Kit.bytes(12, v));
        }
    }

    /** DEFAULT, told by this operand; NONE if it is none. */
    private static int operand(int... bytes) {
        CharstringPress press = new CharstringPress();
        byte[] font = parts(p -> p.privateDict = Kit.join(Kit.bytes(bytes), Kit.bytes(20))).build();
        Kit.due("read", Kit.read(press, 0, font), 0);
        return press.font(4);
    }

    private static void operands() {
        Kit.sentence("28 and two bytes, 29 and four (with sign): that INTEGER");
        Kit.due("the greatest of 28", operand(28, 127, 255), 32767);
        Kit.due("the least of 28", operand(28, 128, 0), -32768);
        Kit.due("28, -1", operand(28, 255, 255), -1);
        Kit.due("28, 255", operand(28, 0, 255), 255);
        Kit.due("the greatest of 29", operand(29, 127, 255, 255, 255), GREATEST);
        Kit.due("the least of 29", operand(29, 128, 0, 0, 0), LEAST);
        Kit.due("29, -1", operand(29, 255, 255, 255, 255), -1);
        Kit.due("29, 128 in each", operand(29, 0, 128, 128, 128), 0x808080);
        Kit.sentence("32 to 246: b - 139");
        for (int b = 32; b <= 246; b++) {
            Kit.due("byte " + b, operand(b), b - 139);
        }
        Kit.sentence("247 to 250: (b - 247) * 256 + U1 + 108");
        for (int b = 247; b <= 250; b++) {
            Kit.due("byte " + b + " and 0", operand(b, 0), 108 + 256 * (b - 247));
            Kit.due("byte " + b + " and 255", operand(b, 255), 363 + 256 * (b - 247));
        }
        Kit.sentence("251 to 254: -(b - 251) * 256 - U1 - 108");
        for (int b = 251; b <= 254; b++) {
            Kit.due("byte " + b + " and 0", operand(b, 0), -108 - 256 * (b - 251));
            Kit.due("byte " + b + " and 255", operand(b, 255), -363 - 256 * (b - 251));
        }
    }

    private static void operandsCut() {
        Kit.sentence("what goes beyond a DICT's own bytes, but not beyond the TAPE, is 2.");
        byte[][] whole = {Kit.bytes(28, 0, 0), Kit.bytes(29, 0, 0, 0, 0), Kit.bytes(247, 0), Kit.bytes(250, 0),
            Kit.bytes(251, 0), Kit.bytes(254, 0), Kit.bytes(30, 0x11, 0x1f), Kit.bytes(12, 0)};
        for (byte[] kind : whole) {
            for (int n = 1; n < kind.length; n++) {
                byte[] cut = Kit.cut(kind, n);
                byte[] rest = Arrays.copyOfRange(kind, n, kind.length);
                fault(Kit.hex(cut) + ", the rest behind the DICT", 2, p -> {
                    p.privateDict = cut;
                    p.behind = rest;
                });
                fault(Kit.hex(cut) + ", one byte behind the DICT", 2, p -> {
                    p.privateDict = cut;
                    p.behind = new byte[1];
                });
                byte[] top = Kit.join(CffFont.long29(0), Kit.bytes(17), cut);
                fault(Kit.hex(cut) + " at TOP's end", 2, p -> p.tops = CffParts.one(top));
            }
        }
        Kit.sentence("1 it goes beyond the TAPE");
        for (byte[] kind : whole) {
            for (int n = 1; n < kind.length; n++) {
                byte[] cut = Kit.cut(kind, n);
                fault(Kit.hex(cut) + " at the tape's end", 1, p -> p.privateDict = cut);
            }
        }
    }

    private static void reals() {
        Kit.sentence("30: a REAL: half bytes (the upper one first) up to one that is 15, none 13; no INTEGER.");
        for (int half = 0; half <= 15; half++) {
            int v = half;
            fault("upper half " + v, v == 13 ? 2 : 0, p -> p.privateDict = Kit.bytes(30, v << 4 | 15, 0));
            fault("lower half " + v, v == 13 ? 2 : 0, p -> p.privateDict = v == 15 ? Kit.bytes(30, 0x1f, 0)
                    : Kit.bytes(30, 0x10 | v, 0xff, 0));
            fault("half " + v + " behind the end", 0, p -> p.privateDict = Kit.bytes(30, 0xf0 | v, 0));
        }
        fault("15 in the upper half ends it", 0, p -> p.privateDict = Kit.bytes(30, 0x11, 0xf1, 0));
        fault("15 in the lower half ends it", 0, p -> p.privateDict = Kit.bytes(30, 0x11, 0x1f, 0));
        fault("a long one", 0, p -> p.privateDict = Kit.join(Kit.bytes(30), filled(500, 0x11), Kit.bytes(0xff, 0)));
        fault("13 far behind", 2, p -> p.privateDict = Kit.join(Kit.bytes(30), filled(500, 0x11), Kit.bytes(0xd0, 0xff, 0)));
        fault("13, and then the tape ends", 2, p -> p.privateDict = Kit.bytes(30, 0xd1));
        fault("no 15, and then the tape ends", 1, p -> p.privateDict = Kit.bytes(30, 0x11));
        int[] wanted = {19, 20, 21};
        for (int operator : wanted) {
            fault("a REAL is no INTEGER for " + operator, 2, p -> p.privateDict = Kit.bytes(30, 0x1f, operator));
        }
        fault("nor for 262", 2, p -> p.ahead = Kit.bytes(30, 0x2f, 12, 6));
        fault("nor for 17", 2, p -> p.tops = CffParts.one(Kit.bytes(30, 0x2f, 17)));
        fault("nor the first for 18", 2, p -> p.tops = CffParts.one(Kit.join(CffFont.long29(0), Kit.bytes(17, 30, 0x0f,
                139, 18))));
        fault("nor the second for 18", 2, p -> p.tops = CffParts.one(Kit.join(CffFont.long29(0), Kit.bytes(17, 139, 30,
                0x0f, 18))));
        fault("a REAL for another one", 0, p -> p.privateDict = Kit.bytes(30, 0x1f, 12, 9, 139, 20));
    }

    private static void dictEnds() {
        Kit.sentence("It ends behind an OPERATOR.");
        fault("operands at PRIVATE's end", 2, p -> {
            p.privateDict = Kit.bytes(139, 20, 139);
            p.behind = Kit.bytes(20);
        });
        fault("operands alone", 2, p -> {
            p.privateDict = Kit.bytes(139);
            p.behind = Kit.bytes(20);
        });
        byte[] right = Kit.join(CffFont.long29(0), Kit.bytes(17));
        fault("operands at TOP's end", 2, p -> p.tops = CffParts.one(Kit.join(right, Kit.bytes(139))));
        fault("a REAL at TOP's end", 2, p -> p.tops = CffParts.one(Kit.join(right, Kit.bytes(30, 0x1f))));
        fault("an operator of two bytes at the end", 0, p -> p.privateDict = Kit.bytes(139, 20, 12, 5));
    }

    private static void toldLast() {
        Kit.sentence("Each OPERATOR's OPERANDS count as it is told last");
        fault("19 wrong, then right", 0, p -> {
            p.privateDict = Kit.bytes(19, 139, 139, 19, 30, 0x1f, 19);
            p.locals = Kit.bytes(0, 0);
        });
        fault("20 wrong, then right", 0, p -> p.privateDict = Kit.bytes(20, 139, 139, 20, 139, 20));
        fault("21 wrong, then right", 0, p -> p.privateDict = Kit.bytes(21, 30, 0x1f, 21, 139, 21));
        fault("19 right, then wrong", 2, p -> p.privateDict = Kit.bytes(139, 19, 19));
        fault("20 right, then wrong", 2, p -> p.privateDict = Kit.bytes(139, 20, 139, 139, 20));
        fault("21 right, then wrong", 2, p -> p.privateDict = Kit.bytes(139, 21, 30, 0x1f, 21));
        fault("17 wrong, then right", 0, p -> p.ahead = Kit.bytes(17, 139, 139, 17, 30, 0x1f, 17));
        fault("18 wrong, then right", 0, p -> p.ahead = Kit.bytes(18, 139, 18, 139, 139, 139, 18));
        fault("17, 18 beyond, then right", 0, p -> p.ahead = Kit.bytes(254, 0, 17, 139, 254, 0, 18));
        fault("262 wrong, then right", 0, p -> p.ahead = Kit.bytes(12, 6, 140, 12, 6, 141, 12, 6));
        fault("262 right, then wrong", 2, p -> p.ahead = Kit.bytes(141, 12, 6, 140, 12, 6));
        CharstringPress press = new CharstringPress();
        byte[] twice = parts(p -> p.privateDict = Kit.bytes(140, 20, 141, 21, 142, 20, 143, 21)).build();
        Kit.due("told twice", Kit.read(press, 0, twice), 0);
        Kit.due("the last DEFAULT", press.font(4), 3);
        Kit.due("the last NOMINAL", press.font(5), 4);
    }

    private static void countNothing() {
        Kit.sentence("those that are none of the following count nothing.");
        fault("17, 18, 262 in PRIVATE", 0, p -> p.privateDict = Kit.bytes(254, 0, 17, 139, 18, 140, 12, 6));
        CharstringPress press = new CharstringPress();
        byte[] top = parts(p -> p.ahead = Kit.bytes(254, 0, 19, 145, 20, 146, 21, 30, 0x1f, 19, 20, 21)).build();
        Kit.due("19, 20, 21 in TOP", Kit.read(press, 0, top), 0);
        Kit.due("no LOCALS", press.font(2), 0);
        Kit.due("no DEFAULT", press.font(4), 0);
        Kit.due("no NOMINAL", press.font(5), 0);
        fault("6 is not 12 6", 0, p -> p.ahead = Kit.bytes(140, 6));
        fault("12 17 is not 17", 2, p -> p.tops = CffParts.one(Kit.bytes(139 + 24, 12, 17)));
        fault("12 20 is not 20", 0, p -> p.privateDict = Kit.bytes(12, 19, 12, 20, 12, 21));
    }

    private static void lettersWanted() {
        Kit.sentence("TOP: 17 (one INTEGER: at that byte of the font the INDEX of LETTERS, 1 to 40), wanted");
        fault("no 17", 2, p -> p.tops = CffParts.one(Kit.bytes(139, 16)));
        fault("17 by none", 2, p -> p.tops = CffParts.one(Kit.bytes(17)));
        fault("17 by two", 2, p -> p.tops = CffParts.one(Kit.bytes(163, 163, 17)));
        for (int n = 0; n <= 42; n++) {
            List<byte[]> letters = new ArrayList<>();
            for (int i = 0; i < n; i++) {
                letters.add(Kit.bytes(14));
            }
            fault(n + " letters", n >= 1 && n <= 40 ? 0 : 2, p -> p.letters = CffFont.index(letters, 1));
        }
        fault("257 letters", 2, p -> p.letters = Kit.join(Kit.bytes(1, 1, 1), filled(258, 1)));
        CharstringPress press = new CharstringPress();
        Kit.read(press, 0, parts(p -> p.letters = Kit.join(Kit.bytes(0, 40, 1), filled(40, 1), Kit.bytes(2, 14))).build());
        Kit.due("40 letters", press.font(1), 40);
        Kit.due("the last has a byte", press.code(0, 39, 0), 14);
        Kit.due("the one ahead has none", press.code(0, 38, 0), NONE);
        Kit.due("it is drawn", press.draw(39, 0), 0);
        Kit.due("there is no 41st", press.draw(40, 0), NONE);
    }

    private static void lettersAtTheirPlace() {
        Kit.sentence("at that byte of the font the INDEX of LETTERS");
        byte[] font = parts(p -> p.behind = CffParts.one(Kit.bytes(139, 14))).build();
        int at = font.length - CffParts.one(Kit.bytes(139, 14)).length;
        CharstringPress press = new CharstringPress();
        byte[] other = parts(p -> {
            p.behind = CffParts.one(Kit.bytes(139, 14));
            p.lettersAt = at;
        }).build();
        Kit.due("letters behind all else", Kit.read(press, 0, other), 0);
        Kit.due("are those", Kit.code(press, 0, 0), "8b0e");
        Kit.read(press, 0, parts(p -> p.lettersAt = 4).build());
        Kit.due("the INDEX of NAMES can be it too", Kit.code(press, 0, 0), "41");
        fault("at the tape's last byte", 1, p -> p.lettersAt = parts(q -> { }).build().length - 1);
        fault("at the tape's end", 1, p -> p.lettersAt = parts(q -> { }).build().length);
    }

    private static void privateTwo() {
        Kit.sentence("18 (two: how many bytes, and at which byte: the PRIVATE DICT)");
        byte[] letters = Kit.join(CffFont.long29(4), Kit.bytes(17));
        int[][] wrong = {{18}, {139, 18}, {139, 139, 139, 18}};
        for (int[] told : wrong) {
            fault("18 by " + (told.length - 1), 2, p -> p.tops = CffParts.one(Kit.join(letters, Kit.bytes(told))));
        }
        fault("18 by two", 0, p -> p.tops = CffParts.one(Kit.join(letters, Kit.bytes(139, 139, 18))));
        fault("without 18", 0, p -> p.tops = CffParts.one(letters));
        fault("no bytes at the tape's end", 0, p -> p.privateAt = parts(q -> { }).build().length);
        fault("one byte at the tape's end", 1, p -> p.privateBytes = 1);
        fault("one byte beyond it", 1, p -> {
            p.privateDict = Kit.bytes(139, 20);
            p.privateBytes = 3;
        });
        fault("the most bytes", 1, p -> p.privateBytes = GREATEST);
        fault("the last bytes of the font", 0, p -> p.privateDict = Kit.bytes(139, 20));
        CharstringPress press = new CharstringPress();
        byte[] part = parts(p -> {
            p.privateDict = Kit.bytes(150, 20, 151, 21);
            p.privateBytes = 2;
        }).build();
        Kit.due("its own bytes alone", Kit.read(press, 0, part), 0);
        Kit.due("DEFAULT is among them", press.font(4), 11);
        Kit.due("NOMINAL is not", press.font(5), 0);
    }

    private static void kindTwo() {
        Kit.sentence("262 (one: 2)");
        int[] kinds = {-1, 0, 1, 3};
        for (int kind : kinds) {
            fault("262 of " + kind, 2, p -> p.ahead = Kit.bytes(139 + kind, 12, 6));
        }
        fault("262 of 2", 0, p -> p.ahead = Kit.bytes(141, 12, 6));
        fault("262 of 2, by four bytes", 0, p -> p.ahead = Kit.bytes(29, 0, 0, 0, 2, 12, 6));
        fault("262 of 65538", 2, p -> p.ahead = Kit.bytes(29, 0, 1, 0, 2, 12, 6));
        fault("262 by none", 2, p -> p.ahead = Kit.bytes(12, 6));
        fault("262 by two", 2, p -> p.ahead = Kit.bytes(141, 141, 12, 6));
        fault("262 wrong, behind 17 and 18", 2, p -> p.tops = CffParts.one(Kit.join(CffFont.long29(4), Kit.bytes(17, 139,
                139, 18, 140, 12, 6))));
    }

    private static void privateOperators() {
        Kit.sentence("20 DEFAULT, 21 NOMINAL (one each; 0 without).");
        CharstringPress press = new CharstringPress();
        Kit.read(press, 0, parts(p -> p.privateDict = Kit.bytes(28, 0, 9, 20, 28, 0, 8, 21)).build());
        Kit.due("DEFAULT", press.font(4), 9);
        Kit.due("NOMINAL", press.font(5), 8);
        Kit.due("another font", Kit.read(press, 0, parts(p -> { }).build()), 0);
        Kit.due("0 without", press.font(4), 0);
        Kit.due("0 without", press.font(5), 0);
        for (int operator = 20; operator <= 21; operator++) {
            int v = operator;
            fault(v + " by none", 2, p -> p.privateDict = Kit.bytes(v));
            fault(v + " by two", 2, p -> p.privateDict = Kit.bytes(139, 139, v));
        }
    }

    private static void localsBehindPrivate() {
        Kit.sentence("19 (one: the INDEX of LOCALS, that many bytes behind the begin of PRIVATE)");
        fault("19 by none", 2, p -> p.privateDict = Kit.bytes(19));
        fault("19 by two", 2, p -> p.privateDict = Kit.bytes(141, 139, 19, 0, 0));
        CharstringPress press = new CharstringPress();
        Kit.due("LOCALS", Kit.read(press, 0, parts(p -> p.locals = CffParts.one(Kit.bytes(140, 11))).build()), 0);
        Kit.due("are there", Kit.code(press, 1, 0), "8c0b");
        byte[] back = parts(p -> {
            p.locals = new byte[0];
            p.localsAt = -p.letters.length;
        }).build();
        Kit.due("LOCALS ahead of PRIVATE", Kit.read(press, 0, back), 0);
        Kit.due("are the letters", Kit.code(press, 1, 0), "0e");
        fault("0 bytes behind: PRIVATE itself", 2, p -> {
            p.locals = new byte[0];
            p.localsAt = 0;
            p.behind = filled(9, 0);
        });
    }

    private static void beyondTheTape() {
        Kit.sentence("1 it goes beyond the TAPE");
        CffParts rich = parts(p -> {
            p.strings = CffParts.one(new byte[3]);
            p.globals = CffParts.one(Kit.bytes(11));
            p.privateDict = Kit.bytes(140, 20);
            p.locals = CffParts.one(Kit.bytes(140, 11));
        });
        byte[] font = rich.build();
        for (int n = 0; n < font.length; n++) {
            Kit.due("the font's first " + n, Kit.fault(0, Kit.cut(font, n)), 1);
        }
        Kit.due("all of it", Kit.fault(0, font), 0);
        int size = font.length;
        int[] beyond = {size - 1, size, size + 1, 9999, GREATEST};
        for (int place : beyond) {
            rich.lettersAt = place;
            Kit.due("letters at " + place, rich.fault(), 1);
        }
        rich.lettersAt = null;
        int[] behind = {size + 1, 9999, GREATEST};
        for (int place : behind) {
            rich.privateAt = place;
            Kit.due("PRIVATE at " + place, rich.fault(), 1);
        }
        rich.privateAt = null;
        int[] local = {1500, 9999, GREATEST};
        for (int place : local) {
            rich.localsAt = place;
            Kit.due("locals at " + place, rich.fault(), 1);
        }
        byte[] full = parts(p -> p.locals = CffParts.one(new byte[200])).build();
        int room = 1500 - full.length;
        CffParts most = parts(p -> {
            p.locals = CffParts.one(new byte[200]);
            p.strings = Kit.join(Kit.bytes(0, 1, 2, 0, 1, (room - 4) >> 8, room - 4), new byte[room - 5]);
        });
        Kit.due("a font of 1500 bytes", most.build().length, 1500);
        Kit.due("is read", most.fault(), 0);
    }

    private static void placesBelowZero() {
        Kit.sentence("(a place below 0 also)");
        int[] below = {-1, -2, -1500, LEAST};
        for (int place : below) {
            fault("letters at " + place, 1, p -> p.lettersAt = place);
            fault("PRIVATE at " + place, 1, p -> p.privateAt = place);
            fault("PRIVATE of two bytes at " + place, 1, p -> {
                p.privateDict = Kit.bytes(139, 20);
                p.privateAt = place;
            });
        }
        int at = parts(p -> { }).build().length;
        int[] behind = {-at - 1, -at - 2, -1500, LEAST};
        for (int place : behind) {
            fault("locals at " + place, 1, p -> {
                p.locals = Kit.bytes(0, 0);
                p.localsAt = place;
            });
        }
        fault("locals at byte 0 of the font", 2, p -> {
            p.locals = Kit.bytes(0, 0);
            p.localsAt = -at;
        });
    }

    private static void beyondTheDict() {
        Kit.sentence("(A part is read byte by byte: the one that comes first; what goes beyond a DICT's own bytes, "
                + "but not beyond the TAPE, is 2.");
        fault("a wrong byte ahead of the tape's end", 2, p -> {
            p.privateDict = Kit.bytes(22);
            p.privateBytes = 9;
        });
        fault("the tape's end ahead of a wrong byte", 1, p -> {
            p.privateDict = Kit.bytes(139, 20);
            p.privateBytes = 9;
        });
        fault("a 49th operand ahead of the tape's end", 2, p -> {
            p.privateDict = filled(49, 139);
            p.privateBytes = 99;
        });
        fault("48 operands, then the tape's end", 1, p -> {
            p.privateDict = filled(48, 139);
            p.privateBytes = 99;
        });
        fault("an operator that is told wrong, then the tape's end", 1, p -> {
            p.privateDict = Kit.bytes(139, 139, 20);
            p.privateBytes = 4;
        });
    }

    private static void ownTurn() {
        Kit.sentence("(each when its own turn comes)");
        fault("PRIVATE's place is asked behind the letters", 2, p -> {
            p.privateAt = -1;
            p.letters = Kit.bytes(0, 0);
        });
        fault("the letters' place behind TOP", 2, p -> {
            p.lettersAt = -1;
            p.ahead = Kit.bytes(140, 12, 6);
        });
        fault("the letters' place behind 18's number", 2, p -> p.tops = CffParts.one(Kit.join(CffFont.long29(-1),
                Kit.bytes(17, 139, 18))));
        fault("LOCALS' place behind PRIVATE", 2, p -> {
            p.privateDict = Kit.join(CffFont.long29(-9999), Kit.bytes(19, 20));
        });
        fault("TOP behind the INDEXES", 1, p -> {
            p.ahead = Kit.bytes(22);
            p.globals = Kit.bytes(0, 1, 1, 1, 255);
        });
    }

    /** A part, put wrong so that its fault is that one. */
    private static void hurt(CffParts parts, int part, int fault) {
        byte[] wrong = fault == 1 ? Kit.bytes(0, 1, 4, 0, 0, 0, 1, 9, 9, 9, 9) : Kit.bytes(0, 1, 5);
        switch (part) {
            case 0:
                parts.header[3] = 0;
                break;
            case 1:
                parts.names = wrong;
                break;
            case 2:
                parts.tops = wrong;
                break;
            case 3:
                parts.strings = wrong;
                break;
            case 4:
                parts.globals = wrong;
                break;
            case 5:
                parts.ahead = Kit.bytes(22);
                break;
            case 6:
                parts.letters = wrong;
                break;
            case 7:
                parts.privateDict = Kit.bytes(fault == 1 ? 0 : 22);
                parts.privateBytes = 1000;
                break;
            default:
                parts.locals = wrong;
                break;
        }
    }

    /** The HEADER and TOP, whose bytes are all there, can have fault 2 alone. */
    private static boolean canBe(int part, int fault) {
        return fault == 2 || part != 0 && part != 5;
    }

    private static void order() {
        Kit.sentence("FAULTS, the first one in this order of reading: HEADER, the INDEXES, TOP, LETTERS, PRIVATE, LOCALS");
        for (int part = 0; part <= 8; part++) {
            for (int fault = 1; fault <= 2; fault++) {
                CffParts alone = new CffParts();
                hurt(alone, part, fault);
                if (canBe(part, fault)) {
                    Kit.due("part " + part + " alone", alone.fault(), fault);
                }
                for (int later = part + 1; later <= 8; later++) {
                    CffParts both = new CffParts();
                    both.locals = Kit.bytes(0, 0);
                    hurt(both, later, 3 - fault);
                    hurt(both, part, fault);
                    if (canBe(part, fault) && canBe(later, 3 - fault)) {
                        Kit.due("part " + part + " ahead of " + later, both.fault(), fault);
                    }
                }
            }
        }
    }

    /** Fonts that are refused amid their operands, each ahead of one that is right. */
    private static void nothingIsLeft() {
        Kit.sentence("0, or its FAULT (the font that there was stays)");
        CharstringPress press = new CharstringPress();
        byte[] right = parts(p -> p.privateDict = Kit.bytes(140, 20)).build();
        byte[][] broken = {parts(p -> p.ahead = Kit.bytes(139, 139, 22)).build(),
            parts(p -> p.ahead = Kit.bytes(30, 0x1f, 22)).build(), parts(p -> p.ahead = Kit.join(filled(49, 139))).build(),
            parts(p -> p.privateDict = Kit.bytes(139, 139, 22)).build(),
            parts(p -> p.privateDict = Kit.bytes(30, 0x1f, 22)).build(),
            parts(p -> p.privateDict = Kit.bytes(145, 20, 146, 21, 141, 19)).build(),
            parts(p -> p.tops = CffParts.one(Kit.bytes(144, 17, 140, 12, 6))).build(),
            parts(p -> p.globals = Kit.bytes(0, 2, 4, 0, 0, 0, 1, 0)).build()};
        for (byte[] font : broken) {
            Kit.due("refused", Kit.read(press, 0, font) > 0 ? 1 : 0, 1);
            Kit.due("the next one", Kit.read(press, 0, right), 0);
            Kit.due("has its own DEFAULT", press.font(4), 1);
            Kit.due("no NOMINAL", press.font(5), 0);
            Kit.due("no LOCALS", press.font(2), 0);
            Kit.due("no GLOBALS", press.font(3), 0);
        }
    }
}
