import java.io.IOException;
import java.lang.reflect.Method;
import java.lang.reflect.Modifier;
import java.nio.file.Path;

/** The document once more, from its first line to its last: every sentence, and an answer that is due by it. */
public final class DocumentTest {
    private static final int NONE = CharstringPress.NONE;

    private DocumentTest() {
    }

    public static void main(String[] args) throws IOException {
        Walk walk = new Walk(Path.of("../shared/DOC.md"));
        whatItIs(walk);
        face(walk);
        bytes(walk);
        DocumentCff.walk(walk);
        DocumentTypeOne.walk(walk);
        DocumentRuns.walk(walk);
        DocumentCffRuns.walk(walk);
        DocumentTypeOneRuns.walk(walk);
        newObject(walk);
        tape(walk);
        reading(walk);
        fonts(walk);
        drawing(walk);
        drawn(walk);
        outlines(walk);
        ciphers(walk);
        out(walk);
        notPromised(walk);
        walk.ends();
        Kit.close("DocumentTest");
    }

    private static void whatItIs(Walk walk) {
        walk.tells("CharstringPress What it is");
        walk.says("A press for letters told as programs: fonts of two families are read from their bytes (the Compact Font "
                + "Format, and Type 1 with its two ciphers) and refused where they are not as told; each letter's program is "
                + "run, with subroutines, hints that only count, arithmetic and flexes, to an outline of lines and curves.");
        CharstringPress press = CffRun.of(CffFont.of("1 2 hstem 5 6 add hmoveto -107 callsubr "
                + "1 2 3 4 5 6 7 8 9 10 11 12 50 flex endchar").local("3 4 rlineto return"));
        Kit.due("a letter of CFF", press.draw(0, 400), 0);
        Kit.due("its outline", Kit.outline(press), "M 11 0 L 14 4 C 15 6 18 10 23 16 C 30 24 39 34 50 46 Z");
        press = TypeOneRun.of("10 500 hsbw 1 2 hstem 5 6 rmoveto 7 hlineto 8 2 div vlineto closepath endchar");
        Kit.due("a letter of Type 1", press.draw(0, 400), 0);
        Kit.due("its outline", Kit.outline(press), "M 15 6 L 22 6 L 22 10 Z");
        Kit.due("a font of CFF that is not as told", Kit.fault(0, Kit.bytes(2, 0, 4, 1)), 2);
        Kit.due("a font of Type 1 that is not as told", Kit.fault(1, TypeOneFont.wrap("/lenIV x")), 2);
        walk.says("An object is used for at most 512 calls after it has been made;");
        press = new CharstringPress();
        for (int turn = 0; turn < 128; turn++) {
            int key = turn * 511;
            Kit.due("feed, call " + (4 * turn + 1), press.feed(0, turn, -turn, turn * turn, -1), 20);
            Kit.due("cipher, call " + (4 * turn + 2), press.cipher(key, 0), 20);
            Kit.due("octet, call " + (4 * turn + 3), press.octet(0), key >> 8);
            Kit.due("count, call " + (4 * turn + 4), press.count(0), 0);
        }
        walk.tells("what later calls answer is free.");
    }

    private static void face(Walk walk) {
        walk.tells("The public face");
        String face = "public final class CharstringPress { public static final int NONE = -1; public CharstringPress(); "
                + "public int feed(int a, int b, int c, int d, int e); public int end(int n); public int read(int family); "
                + "public int font(int what); public int code(int sort, int k, int i); public int draw(int k, int limit); "
                + "public int drawn(int what); public long width(); public int part(int i); "
                + "public long at(int i, int k, int way); public int cipher(int key, int n); public int plain(int key, int n); "
                + "public int octet(int i); public int back(); public int count(int what); }";
        walk.says(face);
        int modifiers = CharstringPress.class.getModifiers();
        Kit.due("public and final", modifiers, Modifier.PUBLIC | Modifier.FINAL);
        Kit.due("constructors", CharstringPress.class.getConstructors().length, 1);
        int methods = 0;
        for (Method method : CharstringPress.class.getDeclaredMethods()) {
            if (!Modifier.isPublic(method.getModifiers())) {
                continue;
            }
            methods++;
            String told = "public " + method.getReturnType() + " " + method.getName() + "(";
            int at = face.indexOf(told);
            Kit.due(told + " is told", at >= 0 ? 1 : 0, 1);
            String arguments = at < 0 ? "" : face.substring(at + told.length(), face.indexOf(')', at));
            Kit.due(told + ", its arguments", method.getParameterCount(), arguments.split("int ", -1).length - 1);
            for (Class<?> type : method.getParameterTypes()) {
                Kit.due(told + ", of type", type.getName(), "int");
            }
        }
        Kit.due("methods", methods, face.split("\\(", -1).length - 2);
    }

    private static void bytes(Walk walk) {
        walk.tells("Terms I. BYTES.");
        walk.says("The TAPE has at most 1500.");
        CharstringPress press = new CharstringPress();
        for (int n = 20; n <= 1500; n += 20) {
            Kit.due("feed", press.feed(n, 0, 0, 0, 0), n);
        }
        Kit.due("feed, of 1520", press.feed(0, 0, 0, 0, 0), NONE);
        Kit.due("1500 are read", press.read(0), 2);
        walk.says("U1, U2, U4: numbers of 1, 2, 4 bytes without sign, the highest first.");
        CffParts parts = new CffParts();
        parts.header = Kit.with(Kit.join(parts.header, new byte[196]), 2, 200);
        Kit.due("U1: H 200", parts.fault(), 0);
        parts = new CffParts();
        parts.globals = Kit.join(Kit.bytes(1, 2, 1), Kit.bytes(1), "\1".repeat(258).getBytes());
        press = new CharstringPress();
        Kit.due("U2: 1 and 2", Kit.read(press, 0, parts.build()), 0);
        Kit.due("are 258", press.font(3), 258);
        parts = new CffParts();
        parts.strings = Kit.bytes(0, 1, 4, 0, 0, 0, 1, 0, 0, 0, 3, 'a', 'b');
        Kit.due("U4: an offset of 3", parts.fault(), 0);
        parts.strings = Kit.bytes(0, 1, 4, 0, 0, 0, 1, 128, 0, 0, 1);
        Kit.due("U4: without sign, far beyond the TAPE", parts.fault(), 1);
        walk.says("A NUMBER is FIXED: 65536 for each whole one (64 bits).");
        press = TypeOneRun.of("1 hmoveto #ff7fffffff vlineto endchar");
        press.draw(0, 9);
        Kit.due("one", press.at(0, 0, 0), 65536);
        Kit.due("64 bits", press.at(1, 0, 1), 2147483647L * 65536);
        walk.says("CIPHER with a key R (0 to 65535): each byte p becomes c = p xor (R >> 8); "
                + "then R = (c + R) * 52845 + 22719, its lowest 16 bits.");
        long[] keys = {0, 1, 255, 256, 4330, 55665, 65535};
        for (long key : keys) {
            cipherByTheWords(key);
        }
        walk.says("PLAIN: likewise back (c the byte that is there).");
        for (long key : keys) {
            plainByTheWords(key);
        }
    }

    private static void cipherByTheWords(long key) {
        CharstringPress press = new CharstringPress();
        press.feed(0x00ff0180, 0x7f33cc55, -1, 0, 0x12345678);
        int[] octets = {0, 255, 1, 128, 127, 0x33, 0xcc, 0x55, 255, 255, 255, 255, 0, 0, 0, 0, 0x12, 0x34, 0x56, 0x78};
        Kit.due("cipher with " + key, press.cipher((int) key, 0), 20);
        long r = key;
        for (int i = 0; i < octets.length; i++) {
            long c = octets[i] ^ r / 256;
            Kit.due("key " + key + ", byte " + i, press.octet(i), c);
            r = ((c + r) * 52845 + 22719) % 65536;
        }
    }

    private static void plainByTheWords(long key) {
        CharstringPress press = new CharstringPress();
        press.feed(0x00ff0180, 0x7f33cc55, -1, 0, 0x12345678);
        int[] octets = {0, 255, 1, 128, 127, 0x33, 0xcc, 0x55, 255, 255, 255, 255, 0, 0, 0, 0, 0x12, 0x34, 0x56, 0x78};
        Kit.due("plain with " + key, press.plain((int) key, 0), 20);
        long r = key;
        for (int i = 0; i < octets.length; i++) {
            Kit.due("key " + key + ", byte " + i, press.octet(i), octets[i] ^ r / 256);
            r = ((octets[i] + r) * 52845 + 22719) % 65536;
        }
    }

    private static void newObject(Walk walk) {
        walk.says("The constants: `NONE = -1`: None.");
        Kit.due("NONE", NONE, -1);
        walk.tells("Promise 1: A new object");
        walk.says("`CharstringPress()`: No font.");
        CharstringPress press = new CharstringPress();
        for (int what = 0; what <= 5; what++) {
            Kit.due("font " + what, press.font(what), NONE);
        }
        Kit.due("no letter", press.draw(0, 1), NONE);
    }

    private static void tape(Walk walk) {
        walk.tells("Promise 2: feed");
        walk.says("`int feed(int a, int b, int c, int d, int e)`: Twenty bytes come behind the TAPE, of each number "
                + "the highest first: how many it has;");
        CharstringPress press = new CharstringPress();
        Kit.due("feed", press.feed(0x01020304, 0x05060708, 0x090a0b0c, 0x0d0e0f10, 0x11121314), 20);
        Kit.due("feed again", press.feed(0x80ff7f00, -2, 0, 0, 5), 40);
        Kit.due("the tape", Kit.tape(press), "0102030405060708090a0b0c0d0e0f1011121314"
                + "80ff7f00fffffffe000000000000000000000005");
        walk.says("NONE, and none comes: it would have more than 1500.");
        press = new CharstringPress();
        for (int i = 0; i < 74; i++) {
            press.feed(i, i, i, i, i);
        }
        Kit.due("1480 and 20", press.feed(1, 2, 3, 4, 5), 1500);
        Kit.due("1481", press.end(1481), 1481);
        Kit.due("1481 and 20", press.feed(6, 7, 8, 9, 10), NONE);
        Kit.due("none came", press.count(0), 1481);
        walk.tells("Promise 3: end");
        walk.says("`int end(int n)`: The TAPE has its first n bytes alone: n;");
        press = new CharstringPress();
        press.feed(0x01020304, 0x05060708, 0, 0, 0);
        Kit.due("end", press.end(7), 7);
        Kit.due("as it was", press.end(7), 7);
        Kit.due("its first seven", Kit.tape(press), "01020304050607");
        walk.says("NONE, and nothing happens, if it has not so many, or n is below 0.");
        press = new CharstringPress();
        press.feed(1, 2, 3, 4, 5);
        Kit.due("21 of 20", press.end(21), NONE);
        Kit.due("below 0", press.end(-1), NONE);
        Kit.due("nothing happened", Kit.tape(press), "0000000100000002000000030000000400000005");
    }

    private static void reading(Walk walk) {
        walk.tells("Promise 4: read");
        walk.says("`int read(int family)`: The TAPE, which is empty then, is the font, of a family (0 CFF, 1 TYPE 1): 0, "
                + "or its FAULT (the font that there was stays).");
        CharstringPress press = new CharstringPress();
        Kit.due("CFF", Kit.read(press, 0, CffFont.of("endchar").build()), 0);
        Kit.due("empty then", press.count(0), 0);
        Kit.due("its family", press.font(0), 0);
        Kit.due("Type 1", Kit.read(press, 1, TypeOneFont.of("endchar", "endchar").build()), 0);
        Kit.due("empty then", press.count(0), 0);
        Kit.due("its family", press.font(0), 1);
        Kit.due("CFF is no Type 1", Kit.read(press, 1, CffFont.least()), 1);
        Kit.due("Type 1 is no CFF", Kit.read(press, 0, TypeOneFont.wrap("x")), 2);
        Kit.due("empty then, too", press.count(0), 0);
        Kit.due("an empty tape", press.read(0), 1);
        Kit.due("the font stays", press.font(1), 2);
        walk.says("NONE, and nothing happens, for another family.");
        Kit.feed(press, CffFont.least());
        Kit.due("2", press.read(2), NONE);
        Kit.due("-1", press.read(-1), NONE);
        Kit.due("the tape is there", press.count(0), CffFont.least().length);
        Kit.due("the font is", press.font(0), 1);
    }

    private static void fonts(Walk walk) {
        walk.tells("Promise 5: font");
        walk.says("`int font(int what)`: Of the font, what 0: its family, 1: LETTERS, 2: LOCALS, 3: GLOBALS (0 of TYPE 1), "
                + "4: DEFAULT, 5: NOMINAL (0 of TYPE 1).");
        CffFont cff = CffFont.of("endchar", "endchar", "endchar").widths(-70000, 800000).local("return").local("return");
        CharstringPress press = CffRun.of(cff.global("return"));
        int[] due = {0, 3, 2, 1, -70000, 800000};
        for (int what = 0; what <= 5; what++) {
            Kit.due("CFF, " + what, press.font(what), due[what]);
        }
        Kit.read(press, 1, new TypeOneFont().words("/Subrs 7 array ").begin().letter("a", "endchar").words("end").build());
        due = new int[] {1, 1, 7, 0, 0, 0};
        for (int what = 0; what <= 5; what++) {
            Kit.due("Type 1, " + what, press.font(what), due[what]);
        }
        walk.says("NONE without a font, or for another what.");
        Kit.due("without a font", new CharstringPress().font(0), NONE);
        Kit.due("6", press.font(6), NONE);
        Kit.due("-1", press.font(-1), NONE);
        walk.tells("Promise 6: code");
        walk.says("`int code(int sort, int k, int i)`: Byte i of a LETTER (sort 0), LOCAL (1), GLOBAL (2), "
                + "as it is run: 0 to 255;");
        press = CffRun.of(CffFont.of("endchar", "#ff00").local("#0102").global("#80"));
        Kit.due("the second letter", Kit.code(press, 0, 1), "ff00");
        Kit.due("255", press.code(0, 1, 0), 255);
        Kit.due("a local", Kit.code(press, 1, 0), "0102");
        Kit.due("a global", Kit.code(press, 2, 0), "80");
        press = TypeOneRun.of(new TypeOneFont().words("/Subrs 2 array ").local(1, "#0d0b").begin().letter("a", "#0e09ff")
                .words("end"));
        Kit.due("a letter of Type 1, as it is run", Kit.code(press, 0, 0), "0e09ff");
        Kit.due("a local of Type 1", Kit.code(press, 1, 1), "0d0b");
        walk.says("NONE without it.");
        int[][] without = {{0, 0, 3}, {0, 0, -1}, {0, 1, 0}, {0, -1, 0}, {1, 0, 0}, {1, 2, 0}, {2, 0, 0}, {3, 0, 0}, {-1, 0, 0}};
        for (int[] one : without) {
            Kit.due("code " + one[0] + " " + one[1] + " " + one[2], press.code(one[0], one[1], one[2]), NONE);
        }
        Kit.due("without a font", new CharstringPress().code(0, 0, 0), NONE);
    }

    private static void drawing(Walk walk) {
        walk.tells("Promise 7: draw");
        walk.says("`int draw(int k, int limit)`: LETTER k is run, with a LIMIT of PARTS (0 to 400): 0, "
                + "or what it can't do (1 to 9).");
        CharstringPress press = CffRun.of(CffFont.of("endchar", "1 hmoveto 2 hlineto endchar", "#02", "endchar 1"));
        Kit.due("no part is needed", press.draw(0, 0), 0);
        Kit.due("three parts", press.draw(1, 3), 0);
        Kit.due("two", press.draw(1, 2), 6);
        Kit.due("none", press.draw(1, 0), 6);
        Kit.due("400", press.draw(1, 400), 0);
        Kit.due("no operator", press.draw(2, 400), 1);
        Kit.due("an end ahead of more", press.draw(3, 400), 0);
        walk.says("NONE, and nothing happens: there is none such, or another LIMIT.");
        press.draw(1, 2);
        String state = Kit.state(press);
        int[][] none = {{4, 400}, {-1, 400}, {1, 401}, {1, -1}};
        for (int[] one : none) {
            Kit.due("draw " + one[0] + " " + one[1], press.draw(one[0], one[1]), NONE);
        }
        Kit.due("nothing happened", Kit.state(press), state);
    }

    private static void drawn(Walk walk) {
        walk.tells("Promise 8: drawn");
        walk.says("`int drawn(int what)`: Of the latest draw() that was not NONE (what it came to, where it can't go on), "
                + "what 0: PARTS, 1: STEPS, 2: HINTS (0 of TYPE 1), 3: bytes it was at in the LETTER or subroutine where it "
                + "ended (behind what ended it).");
        Kit.due("CFF", CffRun.came("1 2 3 4 hstem 200 hmoveto 5 hlineto endchar"),
                "fault 0 parts 3 steps 4 hints 2 bytes 11 width 300");
        Kit.due("where it can't go on", CffRun.came("1 2 hstem 200 hmoveto 5 hlineto rlineto endchar"),
                "fault 2 parts 2 steps 3 hints 1 bytes 9 width 300");
        CharstringPress press = CffRun.of(CffFont.of("1 2 3 -107 callsubr endchar").local("drop drop 7 hmoveto endchar 1"));
        Kit.due("in a subroutine", press.draw(0, 9), 0);
        Kit.due("the bytes there", press.drawn(3), 7);
        press.draw(9, 9);
        Kit.due("behind a draw that is NONE", press.drawn(3), 7);
        Kit.read(press, 0, CffFont.least());
        Kit.due("behind another font", press.drawn(3), 7);
        Kit.due("Type 1", TypeOneRun.came("0 9 hsbw 1 2 hstem 3 4 vstem 6 hmoveto closepath endchar"),
                "fault 0 parts 2 steps 6 hints 0 bytes 13 width 9");
        walk.says("NONE ahead of any, or for another what.");
        for (int what = -1; what <= 4; what++) {
            Kit.due("ahead of any, " + what, new CharstringPress().drawn(what), NONE);
        }
        Kit.due("4", press.drawn(4), NONE);
        Kit.due("-1", press.drawn(-1), NONE);
        walk.tells("Promise 9: width");
        walk.says("`long width()`: Its WIDTH, FIXED; 0 if it told none (of CFF DEFAULT, as soon as an operator could have "
                + "told it; 0 ahead of that).");
        Kit.due("told", CffRun.width("-50 endchar"), "550");
        Kit.due("told by a part", CffRun.width("0.5 1 hmoveto"), "600+32768");
        Kit.due("DEFAULT", CffRun.width("1 hmoveto"), "300");
        Kit.due("ahead of that", CffRun.width("1 hlineto 1 2"), "0");
        Kit.due("Type 1 that told none", TypeOneRun.came("endchar"), "fault 0 parts 0 steps 1 hints 0 bytes 1 width 0");
        Kit.due("ahead of any", new CharstringPress().width(), 0);
    }

    private static void outlines(Walk walk) {
        walk.tells("Promise 10: part");
        walk.says("`int part(int i)`: What PART i is: 0 to 3; NONE.");
        CharstringPress press = CffRun.of(CffFont.of("1 2 rmoveto 3 hlineto 1 2 3 4 5 6 rrcurveto endchar"));
        Kit.due("ahead of any draw", press.part(0), NONE);
        press.draw(0, 400);
        for (int i = 0; i <= 3; i++) {
            Kit.due("part " + i, press.part(i), i);
        }
        Kit.due("part 4", press.part(4), NONE);
        Kit.due("part -1", press.part(-1), NONE);
        walk.tells("Promise 11: at");
        walk.says("`long at(int i, int k, int way)`: Of PART i point k (0; of a CURVE 0 to 2) its x (way 0) or y (1), FIXED.");
        long[][] points = {{0, 0, 1, 2}, {1, 0, 4, 2}, {2, 0, 5, 4}, {2, 1, 8, 8}, {2, 2, 13, 14}};
        for (long[] point : points) {
            Kit.due("x of " + point[0] + " " + point[1], press.at((int) point[0], (int) point[1], 0), point[2] * 65536);
            Kit.due("y of " + point[0] + " " + point[1], press.at((int) point[0], (int) point[1], 1), point[3] * 65536);
        }
        walk.says("0 without.");
        int[][] without = {{0, 1, 0}, {1, 1, 1}, {2, 3, 0}, {2, -1, 0}, {3, 0, 0}, {3, 0, 1}, {4, 0, 0}, {-1, 0, 0}, {2, 0, 2},
            {2, 0, -1}};
        for (int[] one : without) {
            Kit.due("at " + one[0] + " " + one[1] + " " + one[2], press.at(one[0], one[1], one[2]), 0);
        }
    }

    private static void ciphers(Walk walk) {
        walk.tells("Promise 12: cipher");
        walk.says("`int cipher(int key, int n)`: The TAPE, which is empty then, as CIPHER with a key, n bytes of 0 ahead of "
                + "it first (n 0 to 8): OUT has it: how many bytes;");
        for (int n = 0; n <= 8; n++) {
            CharstringPress press = new CharstringPress();
            Kit.feed(press, Kit.bytes(1, 2, 3));
            Kit.due("cipher", press.cipher(4330, n), n + 3);
            Kit.due("OUT", Kit.out(press), Kit.hex(Kit.cipher(Kit.join(new byte[n], Kit.bytes(1, 2, 3)), 4330)));
            Kit.due("empty then", press.count(0), 0);
        }
        walk.says("NONE, and nothing happens, for another key or n.");
        int[][] others = {{-1, 0}, {65536, 0}, {0, -1}, {0, 9}};
        CharstringPress press = new CharstringPress();
        press.feed(1, 2, 3, 4, 5);
        press.cipher(1, 0);
        press.feed(1, 2, 3, 4, 5);
        String state = Kit.state(press);
        for (int[] other : others) {
            Kit.due("cipher " + other[0] + " " + other[1], press.cipher(other[0], other[1]), NONE);
        }
        Kit.due("nothing happened", Kit.state(press), state);
        walk.tells("Promise 13: plain");
        walk.says("`int plain(int key, int n)`: The TAPE, which is empty then, as PLAIN with a key, its first n bytes "
                + "(0 to 8; all, if they are fewer) left out: likewise.");
        for (int[] other : others) {
            Kit.due("plain " + other[0] + " " + other[1], press.plain(other[0], other[1]), NONE);
        }
        Kit.due("nothing happened", Kit.state(press), state);
        for (int n = 0; n <= 8; n++) {
            press = new CharstringPress();
            Kit.feed(press, Kit.cipher(Kit.bytes(1, 2, 3, 4, 5), 55665));
            Kit.due("plain", press.plain(55665, n), Math.max(0, 5 - n));
            Kit.due("OUT", Kit.out(press), "0102030405".substring(Math.min(10, 2 * n)));
            Kit.due("empty then", press.count(0), 0);
        }
    }

    private static void out(Walk walk) {
        walk.tells("Promise 14: octet");
        walk.says("`int octet(int i)`: Byte i of OUT; NONE.");
        CharstringPress press = new CharstringPress();
        Kit.due("of none", press.octet(0), NONE);
        Kit.feed(press, Kit.bytes(255, 0, 7));
        press.cipher(0, 0);
        Kit.due("the first", press.octet(0), 255);
        Kit.due("behind the last", press.octet(3), NONE);
        Kit.due("ahead of the first", press.octet(-1), NONE);
        walk.tells("Promise 15: back");
        walk.says("`int back()`: OUT's bytes come behind the TAPE, and OUT is empty then: how many the TAPE has;");
        press = new CharstringPress();
        Kit.feed(press, Kit.bytes(5));
        press.cipher(0, 0);
        Kit.feed(press, Kit.bytes(9, 8));
        Kit.due("back", press.back(), 3);
        Kit.due("OUT is empty", press.count(1), 0);
        Kit.due("the tape", Kit.tape(press), "090805");
        walk.says("NONE, and nothing happens: it would have more than 1500.");
        press = new CharstringPress();
        Kit.feed(press, new byte[1500]);
        Kit.due("1501", press.cipher(0, 1), 1501);
        Kit.due("1501 come not", press.back(), NONE);
        Kit.due("OUT is there", press.count(1), 1501);
        Kit.due("the tape is empty", press.count(0), 0);
        walk.tells("Promise 16: count");
        walk.says("`int count(int what)`: What 0: bytes of the TAPE, 1: of OUT.");
        press.feed(0, 0, 0, 0, 0);
        Kit.due("the tape's", press.count(0), 20);
        Kit.due("OUT's", press.count(1), 1501);
        walk.says("NONE for another what.");
        Kit.due("2", press.count(2), NONE);
        Kit.due("-1", press.count(-1), NONE);
    }

    private static void notPromised(Walk walk) {
        walk.tells("Not promised How the state is held inside the object is free, as are the speed of each call, the text of "
                + "toString and the behaviour of equals and hashCode. Use of one object from several threads at once is not "
                + "promised to be safe. Nothing is promised beyond the answers and state changes described above, and nothing "
                + "about an object after its 512th call.");
    }
}
