/** The edges of promises 4 to 11: what each call answers at its arguments' bounds, and what a refused one leaves. */
public final class AnswerEdgesTest {
    private static final int NONE = CharstringPress.NONE;
    private static final int LEAST = Integer.MIN_VALUE;
    private static final int GREATEST = Integer.MAX_VALUE;

    private AnswerEdgesTest() {
    }

    public static void main(String[] args) {
        readOfAnotherFamily();
        readEmptiesTheTape();
        faultLeavesTheFont();
        faultLeavesNoFont();
        fontWithout();
        fontOfAnotherWhat();
        zerosOfTypeOne();
        codeWithout();
        codeOfTypeOne();
        drawRefused();
        drawWithoutFont();
        limits();
        drawnAheadOfAny();
        drawnStays();
        drawnWhereItCannotGoOn();
        drawnBytes();
        widthOfNone();
        parts();
        points();
        toTheLastCall();
        Kit.close("AnswerEdgesTest");
    }

    private static byte[] cff() {
        CffFont font = CffFont.of("1 2 rmoveto 3 hlineto endchar", "", "7 endchar").widths(300, 600);
        return font.local("5 return").local("").global("return").global("6 return").build();
    }

    private static byte[] typeOne() {
        TypeOneFont font = new TypeOneFont().words("/Subrs 3 array ").local(0, "5 return").local(2, "");
        return font.begin().letter("a", "0 9 hsbw 1 hlineto endchar").letter("b", "").words("end").build();
    }

    private static CharstringPress press() {
        CharstringPress press = new CharstringPress();
        Kit.due("read", Kit.read(press, 0, cff()), 0);
        return press;
    }

    private static void readOfAnotherFamily() {
        Kit.sentence("Promise 4: NONE, and nothing happens, for another family.");
        CharstringPress press = press();
        press.draw(0, 400);
        press.cipher(5, 5);
        Kit.feed(press, typeOne());
        String ahead = Kit.state(press);
        int[] wrong = {-1, 2, 3, 256, LEAST, GREATEST};
        for (int family : wrong) {
            Kit.due("read(" + family + ")", press.read(family), NONE);
            Kit.due("nothing happened", Kit.state(press), ahead);
        }
        Kit.due("the tape is as it was", press.read(1), 0);
        Kit.due("and is the font now", press.font(0), 1);
    }

    private static void readEmptiesTheTape() {
        Kit.sentence("The TAPE, which is empty then, is the font, of a family (0 CFF, 1 TYPE 1): 0, or its FAULT");
        CharstringPress press = new CharstringPress();
        Kit.due("an empty tape, CFF", press.read(0), 1);
        Kit.due("an empty tape, Type 1", press.read(1), 1);
        Kit.feed(press, cff());
        Kit.due("a font", press.read(0), 0);
        Kit.due("the tape is empty then", press.count(0), 0);
        Kit.feed(press, cff());
        Kit.due("a fault", press.read(1), 1);
        Kit.due("the tape is empty then too", press.count(0), 0);
        Kit.feed(press, typeOne());
        Kit.due("a fault", press.read(0), 2);
        Kit.due("the tape is empty then too", press.count(0), 0);
    }

    private static void faultLeavesTheFont() {
        Kit.sentence("(the font that there was stays)");
        byte[][] fonts = {cff(), typeOne()};
        for (int family = 0; family <= 1; family++) {
            CharstringPress press = new CharstringPress();
            Kit.read(press, family, fonts[family]);
            press.draw(0, 400);
            String ahead = Kit.state(press);
            for (int n = 0; n < fonts[0].length; n += 5) {
                Kit.due("a cut font is refused", Kit.read(press, 0, Kit.cut(fonts[0], n)) > 0 ? 1 : 0, 1);
                Kit.due("the font stays", Kit.state(press), ahead);
            }
            for (int n = 0; n < fonts[1].length; n += 5) {
                Kit.due("a cut font is refused", Kit.read(press, 1, Kit.cut(fonts[1], n)) > 0 ? 1 : 0, 1);
                Kit.due("the font stays", Kit.state(press), ahead);
            }
            Kit.due("and can be drawn", press.draw(0, 400), 0);
            Kit.due("as it was", Kit.state(press), ahead);
        }
    }

    private static void faultLeavesNoFont() {
        Kit.sentence("Promise 1: No font. Promise 5: NONE without a font");
        CharstringPress press = new CharstringPress();
        Kit.due("a fault", Kit.read(press, 0, Kit.cut(cff(), 90)), 1);
        Kit.due("a fault", Kit.read(press, 1, Kit.cut(typeOne(), 60)), 1);
        Kit.due("as a new one", Kit.state(press), Kit.state(new CharstringPress()));
        Kit.due("nothing to draw", press.draw(0, 400), NONE);
    }

    private static void fontWithout() {
        Kit.sentence("NONE without a font, or for another what.");
        CharstringPress press = new CharstringPress();
        for (int what = -2; what <= 7; what++) {
            Kit.due("font(" + what + ") without a font", press.font(what), NONE);
        }
    }

    private static void fontOfAnotherWhat() {
        Kit.sentence("NONE without a font, or for another what.");
        CharstringPress press = press();
        int[] answers = {0, 3, 2, 2, 300, 600};
        for (int what = 0; what <= 5; what++) {
            Kit.due("font(" + what + ")", press.font(what), answers[what]);
        }
        int[] wrong = {-1, 6, 7, LEAST, GREATEST};
        for (int what : wrong) {
            Kit.due("font(" + what + ")", press.font(what), NONE);
        }
        Kit.read(press, 0, CffFont.of("").widths(LEAST, GREATEST).build());
        Kit.due("the least DEFAULT", press.font(4), LEAST);
        Kit.due("the greatest NOMINAL", press.font(5), GREATEST);
        Kit.due("the least number of LETTERS", press.font(1), 1);
        Kit.due("no LOCALS", press.font(2), 0);
        Kit.due("no GLOBALS", press.font(3), 0);
    }

    private static void zerosOfTypeOne() {
        Kit.sentence("3: GLOBALS (0 of TYPE 1), 4: DEFAULT, 5: NOMINAL (0 of TYPE 1).");
        CharstringPress press = press();
        Kit.due("a font of Type 1 behind one of CFF", Kit.read(press, 1, typeOne()), 0);
        int[] answers = {1, 2, 3, 0, 0, 0, NONE};
        for (int what = 0; what <= 6; what++) {
            Kit.due("font(" + what + ")", press.font(what), answers[what]);
        }
    }

    private static void codeWithout() {
        Kit.sentence("Byte i of a LETTER (sort 0), LOCAL (1), GLOBAL (2), as it is run: 0 to 255; NONE without it.");
        CharstringPress press = press();
        int[][] sizes = {{6, 0, 2}, {2, 0, NONE}, {1, 2, NONE}};
        for (int sort = 0; sort <= 2; sort++) {
            for (int k = 0; k <= 2; k++) {
                int size = Math.max(0, sizes[sort][k]);
                Kit.due("bytes of " + sort + " " + k, Kit.code(press, sort, k).length() / 2, size);
                Kit.due("byte -1", press.code(sort, k, -1), NONE);
                Kit.due("the byte behind", press.code(sort, k, size), NONE);
                Kit.due("the least byte", press.code(sort, k, LEAST), NONE);
                Kit.due("the greatest byte", press.code(sort, k, GREATEST), NONE);
            }
            int[] wrong = {-1, 3, 40, 1499, LEAST, GREATEST};
            for (int k : wrong) {
                Kit.due("program " + k + " of sort " + sort, press.code(sort, k, 0), NONE);
            }
        }
        int[] sorts = {-1, 3, LEAST, GREATEST};
        for (int sort : sorts) {
            Kit.due("sort " + sort, press.code(sort, 0, 0), NONE);
        }
        Kit.read(press, 0, CffFont.of("#00ff80").build());
        Kit.due("the least byte", press.code(0, 0, 0), 0);
        Kit.due("the greatest byte", press.code(0, 0, 1), 255);
        Kit.due("one with its highest bit", press.code(0, 0, 2), 128);
    }

    private static void codeOfTypeOne() {
        Kit.sentence("Byte i of a LETTER (sort 0), LOCAL (1), GLOBAL (2), as it is run: 0 to 255; NONE without it.");
        CharstringPress press = new CharstringPress();
        Kit.read(press, 1, typeOne());
        Kit.due("plain, the first four left out", Kit.code(press, 0, 0), "8b940d8c060e");
        Kit.due("of no bytes", press.code(0, 1, 0), NONE);
        Kit.due("no letter", press.code(0, 2, 0), NONE);
        Kit.due("a local", Kit.code(press, 1, 0), "900b");
        Kit.due("a local that is not told", press.code(1, 1, 0), NONE);
        Kit.due("a local of no bytes", press.code(1, 2, 0), NONE);
        Kit.due("no local", press.code(1, 3, 0), NONE);
        Kit.due("no global", press.code(2, 0, 0), NONE);
    }

    private static void drawRefused() {
        Kit.sentence("Promise 7: NONE, and nothing happens: there is none such, or another LIMIT.");
        CharstringPress press = press();
        press.draw(0, 400);
        Kit.feed(press, Kit.bytes(1, 2, 3));
        String ahead = Kit.state(press);
        int[][] wrong = {{-1, 400}, {3, 400}, {40, 0}, {LEAST, 0}, {GREATEST, 0}, {0, -1}, {0, 401}, {0, LEAST},
            {0, GREATEST}, {-1, -1}, {3, 401}};
        for (int[] call : wrong) {
            Kit.due("draw(" + call[0] + ", " + call[1] + ")", press.draw(call[0], call[1]), NONE);
            Kit.due("nothing happened", Kit.state(press), ahead);
        }
        Kit.due("the last letter", press.draw(2, 400), 0);
    }

    private static void drawWithoutFont() {
        Kit.sentence("Promise 7: NONE, and nothing happens: there is none such, or another LIMIT.");
        CharstringPress press = new CharstringPress();
        for (int k = -1; k <= 1; k++) {
            Kit.due("draw(" + k + ", 0)", press.draw(k, 0), NONE);
        }
        Kit.due("nothing happened", Kit.state(press), Kit.state(new CharstringPress()));
    }

    private static void limits() {
        Kit.sentence("with a LIMIT of PARTS (0 to 400): 0, or what it can't do (1 to 9).");
        CharstringPress press = press();
        Kit.due("three parts within 3", press.draw(0, 3), 0);
        Kit.due("three parts within 2", press.draw(0, 2), 6);
        Kit.due("three parts within 400", press.draw(0, 400), 0);
        Kit.due("three parts within 0", press.draw(0, 0), 6);
        Kit.due("none within 0", press.draw(2, 0), 0);
    }

    private static void drawnAheadOfAny() {
        Kit.sentence("Promise 8: NONE ahead of any, or for another what.");
        CharstringPress press = press();
        for (int what = -1; what <= 4; what++) {
            Kit.due("drawn(" + what + ") ahead of any", press.drawn(what), NONE);
        }
        press.draw(3, 0);
        press.draw(0, 401);
        for (int what = 0; what <= 3; what++) {
            Kit.due("drawn(" + what + ") behind a refused one", press.drawn(what), NONE);
        }
        press.draw(1, 0);
        int[] wrong = {-1, 4, 5, LEAST, GREATEST};
        for (int what : wrong) {
            Kit.due("drawn(" + what + ")", press.drawn(what), NONE);
        }
        for (int what = 0; what <= 3; what++) {
            Kit.due("drawn(" + what + ") of a letter of no bytes", press.drawn(what), 0);
        }
    }

    private static void drawnStays() {
        Kit.sentence("Of the latest draw() that was not NONE (what it came to, where it can't go on)");
        CharstringPress press = press();
        press.draw(0, 400);
        String came = Kit.came(press, 0) + Kit.outline(press);
        press.draw(3, 400);
        Kit.due("behind a refused draw", Kit.came(press, 0) + Kit.outline(press), came);
        Kit.read(press, 1, Kit.bytes(1));
        Kit.due("behind a refused font", Kit.came(press, 0) + Kit.outline(press), came);
        Kit.read(press, 1, typeOne());
        Kit.due("behind another font", Kit.came(press, 0) + Kit.outline(press), came);
        Kit.read(press, 0, CffFont.of("").build());
        Kit.due("behind two others", Kit.came(press, 0) + Kit.outline(press), came);
        press.draw(0, 400);
        Kit.due("until another is drawn", Kit.came(press, 7), "fault 7 parts 0 steps 0 hints 0 bytes 0 width 0");
    }

    private static void drawnWhereItCannotGoOn() {
        Kit.sentence("(what it came to, where it can't go on), what 0: PARTS, 1: STEPS, 2: HINTS (0 of TYPE 1)");
        Kit.due("parts, steps, hints ahead of it", CffRun.came("1 2 3 4 hstem 1 hmoveto 2 hlineto 3 vlineto #02"),
                "fault 1 parts 3 steps 4 hints 2 bytes 12 width 300");
        Kit.due("Type 1 counts no hints", TypeOneRun.came("1 2 hstem 1 2 vstem 1 hmoveto 2 hlineto #02"),
                "fault 1 parts 2 steps 4 hints 0 bytes 11 width 0");
    }

    private static void drawnBytes() {
        Kit.sentence("3: bytes it was at in the LETTER or subroutine where it ended (behind what ended it).");
        Kit.due("an end", CffRun.came("1 hmoveto endchar 1 1"), "fault 0 parts 1 steps 2 hints 0 bytes 3 width 300");
        Kit.due("an operator of one byte", CffRun.came("1 #02 1 1"), "fault 1 parts 0 steps 0 hints 0 bytes 2 width 0");
        Kit.due("an operator of two bytes", CffRun.came("1 0 div 1"), "fault 9 parts 0 steps 0 hints 0 bytes 4 width 0");
        Kit.due("a number of five bytes", CffRun.came("1 ".repeat(48) + "#ff00000000 1"),
                "fault 3 parts 0 steps 0 hints 0 bytes 53 width 0");
        Kit.due("the bytes' end", CffRun.came("1 2"), "fault 7 parts 0 steps 0 hints 0 bytes 2 width 0");
        Kit.due("no bytes", CffRun.came(""), "fault 7 parts 0 steps 0 hints 0 bytes 0 width 0");
        CharstringPress press = CffRun.of(CffFont.of("1 1 1 -107 callsubr endchar", "-106 callsubr endchar",
                "-105 callsubr #02").local("1 hmoveto endchar").local("1 #02").local("return"));
        press.draw(0, 9);
        Kit.due("a fault in a subroutine", press.drawn(3), 2);
        press.draw(1, 9);
        Kit.due("a fault in another", press.drawn(3), 2);
        press.draw(2, 9);
        Kit.due("a fault behind a subroutine", press.drawn(3), 3);
    }

    private static void widthOfNone() {
        Kit.sentence("Its WIDTH, FIXED; 0 if it told none (of CFF DEFAULT, as soon as an operator could have told it; "
                + "0 ahead of that).");
        CharstringPress press = press();
        Kit.due("ahead of any draw", press.width(), 0);
        press.draw(1, 400);
        Kit.due("a letter of no bytes", press.width(), 0);
        press.draw(0, 400);
        Kit.due("DEFAULT", press.width(), 300 * 65536L);
        press.draw(2, 400);
        Kit.due("a NUMBER and NOMINAL", press.width(), 607 * 65536L);
        Kit.due("ahead of an operator that could", CffRun.width("1 hlineto 1 1 add 5 vlineto #02"), "0");
        Kit.due("behind one that could", CffRun.width("1 hlineto 1 2 hstem #02"), "300");
        Kit.due("Type 1 without hsbw", TypeOneRun.came("1 hmoveto endchar"),
                "fault 0 parts 1 steps 2 hints 0 bytes 3 width 0");
        Kit.due("Type 1 with it", TypeOneRun.came("1 -7 hsbw 1"), "fault 7 parts 0 steps 1 hints 0 bytes 4 width -7");
        press = CffRun.of(CffFont.of("endchar", "-32768 endchar").widths(LEAST, LEAST));
        press.draw(0, 0);
        Kit.due("the least DEFAULT", press.width(), LEAST * 65536L);
        press.draw(1, 0);
        Kit.due("the least of all", press.width(), (LEAST - 32768L) * 65536L);
    }

    private static void parts() {
        Kit.sentence("Promise 10: What PART i is: 0 to 3; NONE.");
        CharstringPress press = press();
        Kit.due("ahead of any draw", press.part(0), NONE);
        press.draw(0, 400);
        int[] kinds = {0, 1, 3, NONE};
        for (int i = 0; i <= 3; i++) {
            Kit.due("part " + i, press.part(i), kinds[i]);
        }
        int[] wrong = {-1, 399, 400, LEAST, GREATEST};
        for (int i : wrong) {
            Kit.due("part " + i, press.part(i), NONE);
        }
        press.draw(0, 1);
        Kit.due("one alone", press.part(0), 0);
        Kit.due("none of the draw ahead of it", press.part(1), NONE);
        press.draw(2, 400);
        Kit.due("none", press.part(0), NONE);
        press = CffRun.of(CffFont.of(("1 ".repeat(48) + "hlineto ").repeat(8) + "1 ".repeat(16) + "hlineto"));
        Kit.due("400 parts", press.draw(0, 400), 7);
        Kit.due("the last", press.part(399), 1);
        Kit.due("none behind it", press.part(400), NONE);
    }

    private static void points() {
        Kit.sentence("Of PART i point k (0; of a CURVE 0 to 2) its x (way 0) or y (1), FIXED. 0 without.");
        CharstringPress press = CffRun.of(CffFont.of("11 12 rmoveto 1 2 rlineto 1 2 3 4 5 6 rrcurveto endchar"));
        Kit.due("ahead of any draw", press.at(0, 0, 0), 0);
        press.draw(0, 400);
        int[][] points = {{11, 12}, {12, 14}, {13, 16, 16, 20, 21, 26}, {}, {}};
        for (int i = 0; i < points.length; i++) {
            for (int k = 0; k <= 3; k++) {
                for (int way = 0; way <= 1; way++) {
                    long due = 2 * k + way < points[i].length ? points[i][2 * k + way] * 65536L : 0;
                    Kit.due("at(" + i + ", " + k + ", " + way + ")", press.at(i, k, way), due);
                }
            }
        }
        int[] wrong = {-1, 4, 400, LEAST, GREATEST};
        for (int far : wrong) {
            Kit.due("part " + far, press.at(far, 0, 0), 0);
            Kit.due("point " + far, press.at(2, far, 0), 0);
            Kit.due("point " + far + " of a line", press.at(1, far, 1), 0);
            Kit.due("way " + far, press.at(2, 2, far), 0);
        }
        Kit.due("way 2", press.at(0, 0, 2), 0);
        press.draw(0, 2);
        Kit.due("the curve is not there", press.at(2, 0, 0), 0);
    }

    /** Fonts of both families by turns, up to the 512th call. */
    private static void toTheLastCall() {
        Kit.sentence("An object is used for at most 512 calls after it has been made");
        CharstringPress press = new CharstringPress();
        int calls = 0;
        byte[][] fonts = {CffFont.of("1 2 rmoveto 3 hlineto endchar").widths(300, 600).build(),
            TypeOneFont.of("0 9 hsbw 1 hlineto endchar").build()};
        for (int turn = 0; calls + (fonts[turn % 2].length + 19) / 20 + 8 <= 512; turn++) {
            byte[] font = fonts[turn % 2];
            Kit.feed(press, font);
            Kit.due("read at turn " + turn, press.read(turn % 2), 0);
            Kit.due("draw at turn " + turn, press.draw(0, 400), 0);
            Kit.due("parts", press.drawn(0), turn % 2 == 0 ? 3 : 1);
            Kit.due("x of the first", press.at(0, 0, 0), 65536);
            Kit.due("width", press.width(), (turn % 2 == 0 ? 300 : 9) * 65536L);
            calls += (font.length + 19) / 20 + 6;
        }
        for (; calls < 512; calls++) {
            Kit.due("call " + calls, press.count(0), 0);
        }
    }
}
