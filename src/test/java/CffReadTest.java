import java.util.ArrayList;
import java.util.List;

/** Promises 4 to 6 of the Compact Font Format: what is read, and what is refused. */
public final class CffReadTest {
    private static final int NONE = CharstringPress.NONE;

    private CffReadTest() {
    }

    public static void main(String[] args) {
        ordinary();
        readIsOnce();
        fontsInTurn();
        header();
        indexes();
        topFaults();
        operands();
        letters();
        privateFaults();
        locals();
        order();
        Kit.close("CffReadTest");
    }

    private static void ordinary() {
        CharstringPress press = new CharstringPress();
        CffFont font = CffFont.of("endchar", "1 2 rmoveto endchar", "").widths(500, -70000).string("x").string("yz");
        font.local("return").local("5 hmoveto return").local("").global("11 return");
        Kit.due("read", Kit.read(press, 0, font.build()), 0);
        Kit.due("the tape is empty then", press.count(0), 0);
        long[] answers = {0, 3, 3, 1, 500, -70000, NONE, NONE};
        for (int what = 0; what < 8; what++) {
            Kit.due("font(" + what + ")", press.font(what), answers[what]);
        }
        Kit.due("font(-1)", press.font(-1), NONE);
        Kit.due("letter 0", Kit.code(press, 0, 0), "0e");
        Kit.due("letter 1", Kit.code(press, 0, 1), "8c8d150e");
        Kit.due("letter 2", Kit.code(press, 0, 2), "");
        Kit.due("local 0", Kit.code(press, 1, 0), "0b");
        Kit.due("local 1", Kit.code(press, 1, 1), "90160b");
        Kit.due("local 2", Kit.code(press, 1, 2), "");
        Kit.due("global 0", Kit.code(press, 2, 0), "960b");
        Kit.due("code of no sort", press.code(3, 0, 0), NONE);
        Kit.due("code of no sort", press.code(-1, 0, 0), NONE);
        Kit.due("code of no letter", press.code(0, 3, 0), NONE);
        Kit.due("code of letter -1", press.code(0, -1, 0), NONE);
        Kit.due("code of no local", press.code(1, 3, 0), NONE);
        Kit.due("code of no global", press.code(2, 1, 0), NONE);
        Kit.due("byte -1", press.code(0, 1, -1), NONE);
        Kit.due("byte behind the last", press.code(0, 1, 4), NONE);
        Kit.due("byte far behind", press.code(0, 1, Integer.MAX_VALUE), NONE);
    }

    private static void readIsOnce() {
        CharstringPress press = new CharstringPress();
        Kit.feed(press, CffFont.least());
        Kit.due("read(2)", press.read(2), NONE);
        Kit.due("read(-1)", press.read(-1), NONE);
        Kit.due("nothing happened", press.count(0), 42);
        Kit.due("read(0)", press.read(0), 0);
        Kit.due("read of an empty tape", press.read(0), 1);
        Kit.due("the font stays", press.font(1), 1);
        Kit.due("a font that is refused", Kit.read(press, 0, Kit.bytes(2, 0, 0)), 2);
        Kit.due("its tape is empty then", press.count(0), 0);
        Kit.due("the font stays", Kit.code(press, 0, 0), "0e");
        Kit.due("another font", Kit.read(press, 0, CffFont.of("7 endchar", "endchar").build()), 0);
        Kit.due("is there", press.font(1), 2);
        Kit.due("with its bytes", Kit.code(press, 0, 0), "920e");
        Kit.due("a Type 1 font", Kit.read(press, 1, TypeOneFont.of("endchar").build()), 0);
        Kit.due("is there", press.font(0), 1);
        Kit.due("a font that is refused", Kit.read(press, 0, Kit.cut(CffFont.least(), 41)), 1);
        Kit.due("the font stays", press.font(0), 1);
    }

    /** Fonts of both families one behind the other: nothing of an earlier one is left. */
    private static void fontsInTurn() {
        CharstringPress press = new CharstringPress();
        byte[] rich = CffFont.of("endchar", "7 endchar").widths(5, 6).local("return").global("return").build();
        byte[] poor = CffFont.withAhead();
        TypeOneFont font = new TypeOneFont().words("/Subrs 2 array ").local(1, "3 return");
        byte[] typeOne = font.begin().letter("a", "8 endchar").letter("b", "9 endchar").words("end").build();
        byte[] plain = TypeOneFont.of("endchar").build();
        int[] turns = {0, 0, 2, 2, 1, 1, 3, 3, 0, 2, 1, 3, 2, 0, 3, 1, 2, 3, 0, 1};
        String[] answers = {"0 2 1 1 5 6", "0 1 0 0 0 0", "1 2 2 0 0 0", "1 1 0 0 0 0"};
        String[] codes = {"0e|920e|0b||0b|", "0e|||||", "930e|940e||8e0b||", "0e|||||"};
        byte[][] fonts = {rich, poor, typeOne, plain};
        for (int turn : turns) {
            Kit.due("read", Kit.read(press, turn / 2, fonts[turn]), 0);
            StringBuilder told = new StringBuilder().append(press.font(0));
            for (int what = 1; what <= 5; what++) {
                told.append(' ').append(press.font(what));
            }
            Kit.due("font " + turn, told.toString(), answers[turn]);
            StringBuilder code = new StringBuilder();
            for (int i = 0; i < 6; i++) {
                code.append(Kit.code(press, i / 2, i % 2)).append(i < 5 ? "|" : "");
            }
            Kit.due("its code", code.toString(), codes[turn]);
        }
    }

    private static void header() {
        Kit.due("the least font", Kit.fault(0, CffFont.least()), 0);
        for (int n = 0; n < 42; n++) {
            Kit.due("only " + n + " bytes", Kit.fault(0, Kit.cut(CffFont.least(), n)), 1);
        }
        Kit.due("version 2", Kit.fault(0, Kit.with(CffFont.least(), 0, 2)), 2);
        Kit.due("version 0, and no more", Kit.fault(0, Kit.bytes(0)), 2);
        Kit.due("any second byte", Kit.fault(0, Kit.with(CffFont.least(), 1, 255)), 0);
        Kit.due("a header of 3", Kit.fault(0, Kit.with(CffFont.least(), 2, 3)), 2);
        Kit.due("a header of 200", Kit.fault(0, Kit.with(CffFont.least(), 2, 200)), 1);
        Kit.due("a header of 200, offsets of 0", Kit.fault(0, Kit.with(Kit.with(CffFont.least(), 2, 200), 3, 0)), 2);
        Kit.due("a header of 1, all else as told from there", Kit.fault(0, Kit.join(Kit.bytes(1, 0, 1, 1, 1, 2, 'A'),
                Kit.bytes(0, 1, 1, 1, 7), CffFont.long29(22), Kit.bytes(17, 0, 0, 0, 0, 0, 1, 1, 1, 2, 14))), 2);
        Kit.due("offsets of 0", Kit.fault(0, Kit.with(CffFont.least(), 3, 0)), 2);
        Kit.due("offsets of 5", Kit.fault(0, Kit.with(CffFont.least(), 3, 5)), 2);
        Kit.due("offsets of 4", Kit.fault(0, Kit.with(CffFont.least(), 3, 4)), 0);
        byte[] longer = Kit.join(Kit.bytes(1, 0, 6, 1, 9, 9), java.util.Arrays.copyOfRange(CffFont.least(), 4, 42));
        longer[21] = 38;
        longer[32] = 44;
        Kit.due("a header of 6", Kit.fault(0, longer), 0);
    }

    private static void indexes() {
        Kit.due("two names", Kit.fault(0, Kit.with(CffFont.least(), 5, 2)), 2);
        Kit.due("no name", Kit.fault(0, Kit.with(CffFont.least(), 5, 0)), 2);
        Kit.due("two names, asked ahead of the rest", Kit.fault(0, Kit.cut(Kit.with(CffFont.least(), 5, 2), 6)), 2);
        Kit.due("257 names", Kit.fault(0, Kit.with(CffFont.least(), 4, 1)), 2);
        Kit.due("offset size 0", Kit.fault(0, Kit.with(CffFont.least(), 6, 0)), 2);
        Kit.due("offset size 5", Kit.fault(0, Kit.with(CffFont.least(), 6, 5)), 2);
        Kit.due("offset size 5, all else as told", Kit.fault(0, Kit.join(Kit.cut(CffFont.withAhead(), 25),
                Kit.bytes(0, 1, 5, 0, 0, 0, 0, 1, 0, 0, 0, 0, 2, 14))), 2);
        Kit.due("offset size 4", Kit.fault(0, Kit.join(Kit.cut(CffFont.withAhead(), 25),
                Kit.bytes(0, 1, 4, 0, 0, 0, 1, 0, 0, 0, 2, 14))), 0);
        Kit.due("the first offset 2", Kit.fault(0, Kit.with(CffFont.least(), 7, 2)), 2);
        Kit.due("the first offset 0", Kit.fault(0, Kit.with(CffFont.least(), 7, 0)), 2);
        Kit.due("an offset less", Kit.fault(0, Kit.with(CffFont.least(), 8, 0)), 2);
        Kit.due("an offset beyond", Kit.fault(0, Kit.with(CffFont.least(), 8, 99)), 1);
        Kit.due("two tops", Kit.fault(0, Kit.with(CffFont.least(), 11, 2)), 2);
        Kit.due("no top", Kit.fault(0, Kit.with(CffFont.least(), 11, 0)), 2);
        Kit.due("an object beyond, then one less", Kit.fault(0, Kit.join(Kit.cut(CffFont.least(), 32),
                Kit.bytes(0, 2, 1, 1, 200, 3, 0, 0, 0, 0, 0, 0))), 2);
        Kit.due("an object beyond", Kit.fault(0, Kit.join(Kit.cut(CffFont.least(), 32), Kit.bytes(0, 2, 1, 1, 3, 200, 0, 0))), 1);
        Kit.due("offsets of four bytes, above 31 bits", Kit.fault(0, Kit.join(Kit.cut(CffFont.least(), 32),
                Kit.bytes(0, 1, 4, 0, 0, 0, 1, 255, 255, 255, 255, 0, 0, 0, 0))), 1);
        Kit.due("65535 strings", Kit.fault(0, Kit.join(Kit.cut(CffFont.least(), 32), Kit.bytes(255, 255, 1), new byte[1])), 2);
        Kit.due("65535 strings", Kit.fault(0, Kit.join(Kit.cut(CffFont.least(), 32), Kit.bytes(255, 255, 1, 1, 1, 1))), 1);
        List<byte[]> many = new ArrayList<>();
        for (int i = 0; i < 1300; i++) {
            many.add(new byte[0]);
        }
        CffFont font = CffFont.of("endchar");
        CharstringPress press = new CharstringPress();
        int lettersAt = 34 + 3 + 1301;
        byte[] head = Kit.cut(Kit.with(Kit.with(CffFont.least(), 18, lettersAt >> 8), 19, lettersAt), 34);
        Kit.due("1300 empty globals", Kit.read(press, 0, Kit.join(head, CffFont.index(many, 1),
                CffFont.index(font.letters, 1))), 0);
        Kit.due("are counted", press.font(3), 1300);
        Kit.due("and empty", press.code(2, 1299, 0), NONE);
    }

    private static void topFaults() {
        Kit.due("no 17", Kit.fault(0, CffFont.withTop(Kit.bytes(139, 16))), 2);
        Kit.due("an empty top", Kit.fault(0, CffFont.withTop(Kit.bytes())), 2);
        Kit.due("17 without operand", Kit.fault(0, CffFont.withTop(Kit.bytes(17))), 2);
        Kit.due("17 with two", Kit.fault(0, CffFont.withTop(Kit.bytes(160, 160, 17))), 2);
        Kit.due("17 by a short one", Kit.fault(0, CffFont.withTop(Kit.bytes(139 + 21, 17))), 0);
        Kit.due("17 by a real", Kit.fault(0, CffFont.withTop(Kit.bytes(30, 0x2f, 17))), 2);
        Kit.due("17 by a real and a right one", Kit.fault(0, CffFont.withTop(Kit.bytes(30, 0x2f, 139 + 24, 17))), 2);
        Kit.due("17 by a right one and a real", Kit.fault(0, CffFont.withTop(Kit.bytes(139 + 24, 30, 0x2f, 17))), 2);
        Kit.due("a real at the end", Kit.fault(0, CffFont.withTop(Kit.bytes(139 + 23, 17, 30, 0x2f))), 2);
        Kit.due("17 told wrong, then right", Kit.fault(0, CffFont.withAhead(139, 139, 17)), 0);
        Kit.due("17 told right, then wrong", Kit.fault(0, CffFont.withTop(Kit.bytes(139 + 22, 17, 17))), 2);
        Kit.due("17 told twice: the last", Kit.fault(0, CffFont.withAhead(28, 39, 15, 17)), 0);
        Kit.due("kind 2", Kit.fault(0, CffFont.withAhead(141, 12, 6)), 0);
        Kit.due("kind 1", Kit.fault(0, CffFont.withAhead(140, 12, 6)), 2);
        Kit.due("kind without operand", Kit.fault(0, CffFont.withAhead(12, 6)), 2);
        Kit.due("kind by two", Kit.fault(0, CffFont.withAhead(141, 141, 12, 6)), 2);
        Kit.due("kind 1, then 2", Kit.fault(0, CffFont.withAhead(140, 12, 6, 141, 12, 6)), 0);
        Kit.due("18 by one", Kit.fault(0, CffFont.withAhead(139, 18)), 2);
        Kit.due("18 by three", Kit.fault(0, CffFont.withAhead(139, 139, 139, 18)), 2);
        Kit.due("18 by a real", Kit.fault(0, CffFont.withAhead(139, 30, 0xff, 18)), 2);
        Kit.due("others of no matter", Kit.fault(0, CffFont.withAhead(0, 12, 255, 139, 19, 139, 139, 20, 21, 6)), 0);
        Kit.due("operands at the end", Kit.fault(0, CffFont.withTop(Kit.bytes(139 + 22, 17, 139))), 2);
        Kit.due("12 at the end", Kit.fault(0, CffFont.withTop(Kit.bytes(139 + 22, 17, 12))), 2);
        Kit.due("without PRIVATE", Kit.fault(0, CffFont.withAhead()), 0);
        CharstringPress press = new CharstringPress();
        Kit.read(press, 0, CffFont.withAhead(139 + 5, 20, 139 + 7, 21));
        Kit.due("20 in the top is none", press.font(4), 0);
        Kit.due("21 in the top is none", press.font(5), 0);
        Kit.due("no locals", press.font(2), 0);
    }

    private static void operands() {
        int[] reserved = {22, 23, 24, 25, 26, 27, 31, 255};
        for (int b : reserved) {
            Kit.due("byte " + b + " in a DICT", Kit.fault(0, CffFont.withAhead(b)), 2);
            Kit.due("byte " + b + " in a DICT", Kit.fault(0, CffFont.withAhead(b, 0, 0, 0, 0, 0)), 2);
        }
        Kit.due("a number beyond the DICT", Kit.fault(0, CffFont.withTop(Kit.bytes(161, 17, 28, 0))), 2);
        Kit.due("a number beyond the DICT", Kit.fault(0, CffFont.withTop(Kit.bytes(161, 17, 29))), 2);
        Kit.due("a number beyond the DICT", Kit.fault(0, CffFont.withTop(Kit.bytes(161, 17, 247))), 2);
        Kit.due("a real beyond the DICT", Kit.fault(0, CffFont.withTop(Kit.bytes(161, 17, 30, 0x12))), 2);
        Kit.due("a real", Kit.fault(0, CffFont.withAhead(30, 0x12, 0x3f, 16)), 0);
        Kit.due("a real that ends in an upper half", Kit.fault(0, CffFont.withAhead(30, 0x12, 0xf0, 16)), 0);
        Kit.due("13 behind its end", Kit.fault(0, CffFont.withAhead(30, 0x12, 0xfd, 16)), 0);
        Kit.due("a real with 13, upper", Kit.fault(0, CffFont.withAhead(30, 0x12, 0xd3, 0x0f, 16)), 2);
        Kit.due("a real with 13, lower", Kit.fault(0, CffFont.withAhead(30, 0x1d, 0x0f, 16)), 2);
        Kit.due("a real with all others", Kit.fault(0, CffFont.withAhead(30, 0xab, 0xce, 0x0f, 16)), 0);
        int[] most = new int[49];
        java.util.Arrays.fill(most, 139);
        most[48] = 16;
        Kit.due("48 operands", Kit.fault(0, CffFont.withAhead(most)), 0);
        int[] more = new int[50];
        java.util.Arrays.fill(more, 139);
        more[49] = 16;
        Kit.due("49 operands", Kit.fault(0, CffFont.withAhead(more)), 2);
        int[] reals = new int[99];
        for (int i = 0; i < 98; i += 2) {
            reals[i] = 30;
            reals[i + 1] = 0xff;
        }
        Kit.due("49 reals", Kit.fault(0, CffFont.withAhead(reals)), 2);
        Kit.due("48 reals", Kit.fault(0, CffFont.withAhead(java.util.Arrays.copyOfRange(reals, 2, 99))), 0);
        widths("32", 32 - 139, 32);
        widths("246", 107, 246);
        widths("247", 108, 247, 0);
        widths("250", 1131, 250, 255);
        widths("251", -108, 251, 0);
        widths("254", -1131, 254, 255);
        widths("28", -32768, 28, 128, 0);
        widths("28", 32767, 28, 127, 255);
        widths("29", Integer.MIN_VALUE, 29, 128, 0, 0, 0);
        widths("29", Integer.MAX_VALUE, 29, 127, 255, 255, 255);
    }

    private static void widths(String name, int want, int... operand) {
        CharstringPress press = new CharstringPress();
        byte[] told = Kit.join(Kit.bytes(operand), Kit.bytes(20), Kit.bytes(operand), Kit.bytes(21));
        int[] bytes = new int[told.length];
        for (int i = 0; i < bytes.length; i++) {
            bytes[i] = told[i] & 255;
        }
        Kit.due("operand " + name, Kit.read(press, 0, CffFont.withPrivate(bytes.length, bytes)), 0);
        Kit.due("default by " + name, press.font(4), want);
        Kit.due("nominal by " + name, press.font(5), want);
    }

    private static void letters() {
        List<byte[]> forty = new ArrayList<>();
        for (int i = 0; i < 40; i++) {
            forty.add(Kit.bytes(14));
        }
        byte[] head = Kit.cut(CffFont.withAhead(), 25);
        Kit.due("40 letters", Kit.fault(0, Kit.join(head, CffFont.index(forty, 1))), 0);
        forty.add(Kit.bytes(14));
        Kit.due("41 letters", Kit.fault(0, Kit.join(head, CffFont.index(forty, 1))), 2);
        Kit.due("41 letters, asked ahead of the rest", Kit.fault(0, Kit.join(head, Kit.bytes(0, 41))), 2);
        Kit.due("no letters", Kit.fault(0, Kit.join(head, Kit.bytes(0, 0))), 2);
        Kit.due("half a count", Kit.fault(0, Kit.join(head, Kit.bytes(0))), 1);
        Kit.due("letters below 0", Kit.fault(0, CffFont.withTop(Kit.bytes(29, 255, 255, 255, 255, 17))), 1);
        Kit.due("letters far below 0", Kit.fault(0, CffFont.withTop(Kit.bytes(29, 128, 0, 0, 0, 17))), 1);
        Kit.due("letters beyond", Kit.fault(0, CffFont.withTop(Kit.bytes(28, 39, 15, 17))), 1);
        Kit.due("letters far beyond", Kit.fault(0, CffFont.withTop(Kit.bytes(29, 127, 255, 255, 255, 17))), 1);
        Kit.due("letters ahead, not as told", Kit.fault(0, CffFont.withTop(Kit.bytes(139, 17))), 2);
    }

    private static void privateFaults() {
        Kit.due("empty", Kit.fault(0, CffFont.withPrivate(0)), 0);
        Kit.due("one byte beyond", Kit.fault(0, CffFont.withPrivate(1)), 1);
        Kit.due("a fault ahead of the tape's end", Kit.fault(0, CffFont.withPrivate(3, 22)), 2);
        Kit.due("the tape's end", Kit.fault(0, CffFont.withPrivate(3, 139, 20)), 1);
        Kit.due("a number beyond the DICT", Kit.fault(0, CffFont.withPrivate(2, 28, 0, 0, 20)), 2);
        Kit.due("a number beyond DICT and tape", Kit.fault(0, CffFont.withPrivate(2, 28, 0)), 1);
        Kit.due("operands at its end", Kit.fault(0, CffFont.withPrivate(1, 139, 20)), 2);
        Kit.due("default by two", Kit.fault(0, CffFont.withPrivate(3, 139, 139, 20)), 2);
        Kit.due("default by none", Kit.fault(0, CffFont.withPrivate(1, 20)), 2);
        Kit.due("nominal by a real", Kit.fault(0, CffFont.withPrivate(3, 30, 0x1f, 21)), 2);
        Kit.due("locals by two", Kit.fault(0, CffFont.withPrivate(3, 142, 139, 19, 0, 0)), 2);
        Kit.due("locals by one", Kit.fault(0, CffFont.withPrivate(2, 141, 19, 0, 0)), 0);
        Kit.due("default told wrong, then right", Kit.fault(0, CffFont.withPrivate(3, 20, 139, 20)), 0);
        Kit.due("17 in it is none", Kit.fault(0, CffFont.withPrivate(2, 17, 18)), 0);
        Kit.due("fewer than no bytes", Kit.fault(0, CffFont.withPrivate(-1)), 2);
        byte[] top = Kit.join(CffFont.long29(36), Kit.bytes(17), CffFont.long29(0), CffFont.long29(43), Kit.bytes(18));
        Kit.due("a place beyond", Kit.fault(0, CffFont.withTop(top)), 1);
        top = Kit.join(CffFont.long29(36), Kit.bytes(17), CffFont.long29(0), CffFont.long29(-1), Kit.bytes(18));
        Kit.due("a place below 0", Kit.fault(0, CffFont.withTop(top)), 1);
        top = Kit.join(CffFont.long29(36), Kit.bytes(17), CffFont.long29(0), CffFont.long29(0), Kit.bytes(18));
        Kit.due("none at the first place", Kit.fault(0, CffFont.withTop(top)), 0);
        top = Kit.join(CffFont.long29(36), Kit.bytes(17), CffFont.long29(5), CffFont.long29(9999), Kit.bytes(18));
        Kit.due("a place far beyond", Kit.fault(0, CffFont.withTop(top)), 1);
        top = Kit.join(CffFont.long29(36), Kit.bytes(17), CffFont.long29(Integer.MAX_VALUE), CffFont.long29(41),
                Kit.bytes(18));
        Kit.due("far too many bytes", Kit.fault(0, CffFont.withTop(top)), 1);
    }

    private static void locals() {
        CharstringPress press = new CharstringPress();
        Kit.due("two locals", Kit.read(press, 0, CffFont.withPrivate(2, 141, 19, 0, 2, 1, 1, 2, 4, 11, 140, 11)), 0);
        Kit.due("are there", press.font(2), 2);
        Kit.due("local 0", Kit.code(press, 1, 0), "0b");
        Kit.due("local 1", Kit.code(press, 1, 1), "8c0b");
        Kit.due("no locals", Kit.fault(0, CffFont.withPrivate(2, 141, 19, 0, 0)), 0);
        Kit.due("locals beyond", Kit.fault(0, CffFont.withPrivate(2, 142, 19, 0, 0)), 1);
        Kit.due("locals cut", Kit.fault(0, CffFont.withPrivate(2, 141, 19, 0, 1, 1, 1, 3, 11)), 1);
        Kit.due("locals not as told", Kit.fault(0, CffFont.withPrivate(2, 141, 19, 0, 1, 1, 2, 3, 11)), 2);
        Kit.due("locals below 0", Kit.fault(0, CffFont.withPrivate(3, 251, 0, 19)), 1);
        Kit.due("locals ahead of PRIVATE", Kit.fault(0, CffFont.withPrivate(2, 139 - 6, 19)), 0);
        Kit.due("locals far beyond", Kit.fault(0, CffFont.withPrivate(6, 29, 127, 255, 255, 255, 19)), 1);
    }

    private static void order() {
        byte[] top = Kit.bytes(139, 17, 139, 28, 39, 15, 18);
        Kit.due("letters ahead of PRIVATE", Kit.fault(0, CffFont.withTop(top)), 2);
        top = Kit.bytes(28, 39, 15, 17, 138, 139, 18);
        Kit.due("letters beyond, PRIVATE not as told", Kit.fault(0, CffFont.withTop(top)), 1);
        top = Kit.bytes(28, 39, 15, 17, 139, 18);
        Kit.due("the top ahead of the letters", Kit.fault(0, CffFont.withTop(top)), 2);
        Kit.due("the INDEXES ahead of the top", Kit.fault(0, Kit.cut(CffFont.withTop(Kit.bytes(139, 16)), 20)), 1);
        Kit.due("PRIVATE ahead of the locals", Kit.fault(0, CffFont.withPrivate(6, 28, 39, 15, 19, 139, 139)), 2);
    }
}
