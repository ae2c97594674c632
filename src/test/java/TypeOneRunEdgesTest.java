/** The edges of term IV, of Type 1: each sentence that names one, by itself. */
public final class TypeOneRunEdgesTest {
    private static final String FULL = "1 ".repeat(24);
    private static final String BEGIN = "0 1 callothersubr ";
    private static final String KEEP = "0 2 callothersubr ";
    private static final String SEVEN = BEGIN + KEEP.repeat(7);

    private TypeOneRunEdgesTest() {
    }

    public static void main(String[] args) {
        pointAtFirst();
        stepsMost();
        partsAboveTheLimit();
        noOperator();
        pileIsFull();
        pileIsFullByPop();
        noSubroutine();
        tenOthers();
        bytesEnd();
        numbers();
        counts();
        clearsThePile();
        leavesThePile();
        hintsAreNothing();
        widths();
        closes();
        movesWithoutClose();
        withoutAFifth();
        currentPoint();
        endWithoutClose();
        subroutineNumbers();
        division();
        divisionWraps();
        othersNumbers();
        othersTake();
        flexBegins();
        flexKeeps();
        flexEnds();
        flexMoves();
        flexPutsBy();
        hintsChange();
        others();
        anotherNumber();
        pops();
        forgets();
        theLeast();
        runsApart();
        Kit.close("TypeOneRunEdgesTest");
    }

    private static void came(String program, String want) {
        Kit.due(program, TypeOneRun.came(program), want);
    }

    private static void fault(String program, int want) {
        Kit.due(program, TypeOneRun.fault(program), want);
    }

    private static void outline(String program, String want) {
        Kit.due(program, TypeOneRun.outline(program), want);
    }

    private static void pointAtFirst() {
        Kit.sentence("The POINT is (0, 0) at first; dx, dy are from it on.");
        outline("1 hlineto endchar", "L 1 0");
        outline("0 hmoveto endchar", "M 0 0");
        outline("-5 7 hsbw 1 hlineto endchar", "L -4 0");
    }

    private static void stepsMost() {
        Kit.sentence("STEPS are operators done; the 3001st: 8, at its first byte, ahead of all others of it.");
        // A call is 100 steps: itself, 98 times dotsection and return.
        TypeOneFont font = new TypeOneFont().words("/Subrs 1 array ").local(0, "dotsection ".repeat(98) + "return").begin();
        String calls = "0 callsubr ".repeat(29);
        font.letter("a", calls + "0 callsubr endchar").letter("b", calls + "0 callsubr #02").letter("c", calls
                + "0 callsubr 1").letter("d", calls + "dotsection ".repeat(99) + "endchar").letter("e", calls
                + "0 callsubr pop");
        CharstringPress press = TypeOneRun.of(font.words("end"));
        String came = " parts 0 steps 3000 hints 0 bytes ";
        Kit.due("the 3001st", Kit.came(press, press.draw(0, 9)), "fault 8" + came + "61 width 0");
        Kit.due("ahead of 1", Kit.came(press, press.draw(1, 9)), "fault 8" + came + "61 width 0");
        Kit.due("3000", Kit.came(press, press.draw(2, 9)), "fault 7" + came + "61 width 0");
        Kit.due("the 3000th", Kit.came(press, press.draw(3, 9)), "fault 0" + came + "257 width 0");
        Kit.due("at its first byte", Kit.came(press, press.draw(4, 9)), "fault 8" + came + "61 width 0");
    }

    private static void partsAboveTheLimit() {
        Kit.sentence("PARTS above the LIMIT: 6 (it is not there).");
        String[] drawing = {"1 1 rmoveto", "1 hmoveto", "1 vmoveto", "1 1 rlineto", "1 hlineto", "1 vlineto",
            "1 1 1 1 1 1 rrcurveto", "1 1 1 1 hvcurveto", "1 1 1 1 vhcurveto", "closepath"};
        for (String program : drawing) {
            Kit.due("LIMIT 0: " + program, TypeOneRun.outline(program + " endchar", 0), "6: ");
            Kit.due("LIMIT 2: " + program, TypeOneRun.outline("1 hmoveto 2 hlineto " + program + " endchar", 2),
                    "6: M 1 0 L 3 0");
            Kit.due("LIMIT 3: " + program, TypeOneRun.fault("1 hmoveto 2 hlineto " + program + " endchar", 3), 0);
        }
        String flex = SEVEN + "1 2 3 3 0 callothersubr endchar";
        Kit.due("no curve of a FLEX", TypeOneRun.outline(flex, 0), "6: ");
        Kit.due("one curve of a FLEX", TypeOneRun.outline(flex, 1), "6: C 0 0 0 0 0 0");
        Kit.due("both", TypeOneRun.outline(flex, 2), "C 0 0 0 0 0 0 C 0 0 0 0 0 0");
        Kit.due("a FLEX's moves are none", TypeOneRun.outline(BEGIN + "1 hmoveto 2 vmoveto 3 4 rmoveto endchar", 0), "");
        Kit.due("an end is none", TypeOneRun.fault("1 2 hsbw 3 4 setcurrentpoint endchar", 0), 0);
    }

    private static void noOperator() {
        Kit.sentence("1 an operator that is none (return in a LETTER itself, too)");
        boolean[] known = new boolean[32];
        int[] plain = {1, 3, 4, 5, 6, 7, 8, 9, 10, 11, 12, 13, 14, 21, 22, 30, 31};
        for (int b : plain) {
            known[b] = true;
        }
        for (int b = 0; b < 32; b++) {
            if (!known[b]) {
                came("1 " + String.format("#%02x", b), "fault 1 parts 0 steps 0 hints 0 bytes 2 width 0");
            }
        }
        boolean[] escaped = new boolean[256];
        int[] told = {0, 1, 2, 7, 12, 16, 17, 33};
        for (int b : told) {
            escaped[b] = true;
        }
        for (int b = 0; b < 256; b++) {
            if (!escaped[b]) {
                came("1 1 1 1 1 1 1 " + String.format("#0c%02x", b), "fault 1 parts 0 steps 0 hints 0 bytes 9 width 0");
            }
        }
        came("return", "fault 1 parts 0 steps 0 hints 0 bytes 1 width 0");
        came("3 callsubr return", "fault 1 parts 0 steps 2 hints 0 bytes 3 width 0");
    }

    private static void pileIsFull() {
        Kit.sentence("3 the PILE has 48 (Type 1: 24) and one comes");
        String[] numbers = {"#20", "#f6", "#f700", "#fe00", "#ff00000000"};
        for (String number : numbers) {
            fault("1 ".repeat(23) + number, 7);
            fault(FULL + number, 3);
        }
        came(FULL + "5 endchar", "fault 3 parts 0 steps 0 hints 0 bytes 25 width 0");
        fault(FULL + "div 1", 7);
        fault(FULL + "div 1 1", 3);
    }

    private static void pileIsFullByPop() {
        Kit.sentence("3 the PILE has 48 (Type 1: 24) and one comes");
        fault("7 1 9 callothersubr " + "1 ".repeat(23) + "pop", 7);
        // Where nothing was put by, none comes.
        came(FULL + "pop", "fault 9 parts 0 steps 0 hints 0 bytes 26 width 0");
        came("7 1 9 callothersubr " + FULL + "pop", "fault 3 parts 0 steps 1 hints 0 bytes 31 width 0");
    }

    private static void noSubroutine() {
        Kit.sentence("4 a subroutine that there is not");
        int[] none = {-1, 9, 20, 21, 199, 200, 10000};
        for (int k : none) {
            fault(k + " callsubr", 4);
        }
        fault("#ff7fffffff callsubr", 4);
        fault("#ff80000000 callsubr", 4);
        fault("3 callsubr endchar", 0);
        CharstringPress press = TypeOneRun.of(TypeOneFont.of("0 callsubr"));
        Kit.due("without /Subrs", press.draw(0, 9), 4);
        TypeOneFont font = new TypeOneFont().words("/Subrs 200 array ").local(199, "return").begin();
        press = TypeOneRun.of(font.letter("a", "199 callsubr endchar").letter("b", "198 callsubr").words("end"));
        Kit.due("the last of 200", press.draw(0, 9), 0);
        Kit.due("one that is not told", press.draw(1, 9), 4);
    }

    private static void tenOthers() {
        Kit.sentence("5 one within 10 others");
        came("7 callsubr", "fault 5 parts 0 steps 10 hints 0 bytes 2 width 0");
        Kit.due("4 ahead of 5", TypeOneRun.fault("10 callsubr"), 4);
        TypeOneFont font = new TypeOneFont().words("/Subrs 12 array ");
        for (int i = 0; i < 11; i++) {
            font.local(i, (i + 1) + " callsubr return");
        }
        font.local(11, "return").begin().letter("a", "1 callsubr endchar").letter("b", "2 callsubr endchar");
        CharstringPress press = TypeOneRun.of(font.words("end"));
        Kit.due("one within 10 others", Kit.came(press, press.draw(0, 9)), "fault 5 parts 0 steps 10 hints 0 bytes 2 width 0");
        Kit.due("one within 9 others", Kit.came(press, press.draw(1, 9)), "fault 0 parts 0 steps 21 hints 0 bytes 3 width 0");
    }

    private static void bytesEnd() {
        Kit.sentence("7 the bytes end (of a LETTER without its end, of a subroutine without return), or a NUMBER's do");
        came("", "fault 7 parts 0 steps 0 hints 0 bytes 0 width 0");
        came("1 hmoveto", "fault 7 parts 1 steps 1 hints 0 bytes 2 width 0");
        came("5 callsubr endchar", "fault 7 parts 1 steps 2 hints 0 bytes 2 width 0");
        came("8 callsubr endchar", "fault 7 parts 0 steps 1 hints 0 bytes 0 width 0");
        String[] cut = {"#f7", "#fa", "#fb", "#fe", "#ff", "#ff00", "#ff0000", "#ff000000", "#0c"};
        for (String bytes : cut) {
            came("1 " + bytes, "fault 7 parts 0 steps 0 hints 0 bytes " + (1 + bytes.length() / 2) + " width 0");
            fault(FULL + bytes, 7);
        }
    }

    private static void numbers() {
        Kit.sentence("NUMBERS among the bytes: 28 (CFF alone), 32 to 254 as in II; 255 and four bytes: Type 1: a whole one.");
        String[] told = {"#20", "#8b", "#f6", "#f700", "#faff", "#fb00", "#feff", "#ff00000001", "#ff7fffffff", "#ff80000000",
            "#ffffffffff", "#ff00010000"};
        String[] due = {"-107", "0", "107", "108", "1131", "-108", "-1131", "1", "2147483647", "-2147483648", "-1", "65536"};
        for (int i = 0; i < told.length; i++) {
            outline(told[i] + " hlineto endchar", "L " + due[i] + " 0");
        }
        fault("#1c0001", 1);
    }

    private static void counts() {
        Kit.sentence("2 too few NUMBERS on the PILE, or not as many as told");
        String[] names = {"dotsection", "hlineto", "vlineto", "hmoveto", "vmoveto", "hstem", "vstem", "rlineto", "hsbw",
            "rmoveto", "setcurrentpoint", "vhcurveto", "hvcurveto", "sbw", "rrcurveto", "hstem3", "vstem3"};
        int[] wanted = {0, 1, 1, 1, 1, 2, 2, 2, 2, 2, 2, 4, 4, 4, 6, 6, 6};
        for (int i = 0; i < names.length; i++) {
            for (int n = 0; n <= 24; n++) {
                fault("1 ".repeat(n) + names[i] + " endchar", n == wanted[i] ? 0 : 2);
            }
        }
        fault("callsubr", 2);
        fault("div", 2);
        fault("1 div", 2);
        fault("callothersubr", 2);
        fault("1 callothersubr", 2);
    }

    private static void clearsThePile() {
        Kit.sentence("All but subroutines, return, div, callothersubr and pop clear the PILE, and take all of it");
        String[] clearing = {"1 2 hstem", "1 2 vstem", "1 2 3 4 5 6 hstem3", "1 2 3 4 5 6 vstem3", "1 2 hsbw", "1 2 3 4 sbw",
            "1 2 rlineto", "1 hlineto", "1 vlineto", "1 2 3 4 5 6 rrcurveto", "1 2 3 4 vhcurveto", "1 2 3 4 hvcurveto",
            "1 2 rmoveto", "1 hmoveto", "1 vmoveto", "1 2 setcurrentpoint", BEGIN + "1 2 rmoveto"};
        for (String program : clearing) {
            fault(program + " dotsection endchar", 0);
            fault("9 " + program + " dotsection endchar", 2);
        }
    }

    private static void leavesThePile() {
        Kit.sentence("All but subroutines, return, div, callothersubr and pop clear the PILE");
        outline("5 3 callsubr hlineto endchar", "L 5 0");
        outline("5 6 2 div rlineto endchar", "L 5 3");
        outline("5 6 0 99 callothersubr rlineto endchar", "L 5 6");
        outline("5 6 1 99 callothersubr pop rlineto endchar", "L 5 6");
        outline("5 " + BEGIN + "hmoveto 1 hlineto endchar", "L 6 0");
    }

    private static void hintsAreNothing() {
        Kit.sentence("hstem 1, vstem 3 (two), hstem3 12 2, vstem3 12 1 (six), dotsection 12 0 (none): nothing.");
        came("1 2 hstem 3 4 vstem 1 2 3 4 5 6 hstem3 1 2 3 4 5 6 vstem3 dotsection 1 hlineto endchar",
                "fault 0 parts 1 steps 7 hints 0 bytes 27 width 0");
        outline("1 2 hstem 3 4 vstem dotsection 1 hlineto endchar", "L 1 0");
    }

    private static void widths() {
        Kit.sentence("hsbw 13 (sbx, wx): the WIDTH wx, the POINT (sbx, 0); sbw 12 7 (four: x, y, WIDTH, of no matter).");
        came("5 6 hsbw endchar", "fault 0 parts 0 steps 2 hints 0 bytes 4 width 6");
        came("5 #ff7fffffff hsbw endchar", "fault 0 parts 0 steps 2 hints 0 bytes 8 width 2147483647");
        came("5 #ff80000000 hsbw endchar", "fault 0 parts 0 steps 2 hints 0 bytes 8 width -2147483648");
        came("5 1 2 div hsbw endchar", "fault 0 parts 0 steps 3 hints 0 bytes 7 width 0+32768");
        came("1 2 3 4 sbw endchar", "fault 0 parts 0 steps 2 hints 0 bytes 7 width 3");
        outline("1 2 rmoveto 5 6 hsbw 1 hlineto endchar", "M 1 2 L 6 0");
        outline("1 2 3 4 sbw 1 hlineto endchar", "L 2 2");
        outline("#ff7fffffff 6 hsbw 1 hlineto endchar", "L 2147483648 0");
    }

    private static void closes() {
        Kit.sentence("closepath 9: CLOSE.");
        outline("closepath endchar", "Z");
        outline("1 hmoveto closepath closepath endchar", "M 1 0 Z Z");
        outline("1 hmoveto 2 hlineto closepath 3 hlineto endchar", "M 1 0 L 3 0 Z L 6 0");
    }

    private static void movesWithoutClose() {
        Kit.sentence("rmoveto 21 (two), hmoveto 22, vmoveto 4 (one): MOVE, but in a FLEX the POINT alone.");
        outline("1 hmoveto 2 hlineto 3 vmoveto endchar", "M 1 0 L 3 0 M 3 3");
        outline("1 2 rmoveto 3 hmoveto 4 vmoveto endchar", "M 1 2 M 4 2 M 4 6");
        outline(BEGIN + "1 2 rmoveto 3 hmoveto 4 vmoveto 1 hlineto endchar", "L 5 6");
    }

    private static void withoutAFifth() {
        Kit.sentence("vhcurveto 30, hvcurveto 31 (four; as above, without a fifth)");
        outline("1 2 3 4 vhcurveto endchar", "C 0 1 2 4 6 4");
        outline("1 2 3 4 hvcurveto endchar", "C 1 0 3 3 3 7");
        int[] wrong = {0, 3, 5, 8, 9};
        for (int n : wrong) {
            fault("1 ".repeat(n) + "vhcurveto", 2);
            fault("1 ".repeat(n) + "hvcurveto", 2);
        }
    }

    private static void currentPoint() {
        Kit.sentence("setcurrentpoint 12 33 (two): the POINT goes there.");
        outline("1 2 rmoveto 7 8 setcurrentpoint 1 hlineto endchar", "M 1 2 L 8 8");
        outline("1 2 rmoveto 0 0 setcurrentpoint 1 hmoveto endchar", "M 1 2 M 1 0");
        outline("#ff80000000 #ff7fffffff setcurrentpoint 0 hmoveto endchar", "M -2147483648 2147483647");
    }

    private static void endWithoutClose() {
        Kit.sentence("endchar 14: it ends (without a CLOSE).");
        came("1 hmoveto 2 hlineto endchar #02", "fault 0 parts 2 steps 3 hints 0 bytes 5 width 0");
        came("6 callsubr #02", "fault 0 parts 1 steps 3 hints 0 bytes 3 width 0");
    }

    private static void subroutineNumbers() {
        Kit.sentence("callsubr 10 (the top; whole, cut towards less)");
        fault("3 callsubr endchar", 0);
        fault("7 2 div callsubr endchar", 0);
        fault("-1 1000 div callsubr endchar", 4);
        Kit.due("0 is one", TypeOneRun.fault("0 callsubr"), 2);
        outline("5 3 callsubr hlineto endchar", "L 5 0");
    }

    private static void division() {
        Kit.sentence("div 12 12: a by b (as above, 64 bits).");
        outline("1 3 div hlineto endchar", "L 0+21845 0");
        outline("-1 3 div hlineto endchar", "L -1+43691 0");
        outline("1 -3 div hlineto endchar", "L -1+43691 0");
        outline("-1 -3 div hlineto endchar", "L 0+21845 0");
        fault("1 0 div", 9);
        fault("0 0 div", 9);
        outline("0 5 div hlineto endchar", "L 0 0");
        outline("#ff7fffffff 1 2 div div hlineto endchar", "L 4294967294 0");
        outline("#ff80000000 -1 div hlineto endchar", "L 2147483648 0");
        // 1 by 65536 is the least above 0; what it divides keeps 64 bits.
        outline("1 #ff00010000 div hlineto endchar", "L 0+1 0");
        outline("1 1 #ff00010000 div div hlineto endchar", "L 65536 0");
        outline("1 1 1 #ff00010000 div div div hlineto endchar", "L 0+1 0");
        fault("1 1 #ff00020000 div div", 9);
    }

    private static void divisionWraps() {
        Kit.sentence("A NUMBER is FIXED: 65536 for each whole one (64 bits).");
        CharstringPress press = TypeOneRun.of("#ff7fffffff 1 #ff00010000 div div hlineto endchar");
        Kit.due("the greatest by the least", press.draw(0, 9), 0);
        Kit.due("64 bits of it", press.at(0, 0, 0), 2147483647L << 32);
        press = TypeOneRun.of("#ff80000000 1 #ff00010000 div div hlineto endchar");
        Kit.due("the least by the least", press.draw(0, 9), 0);
        Kit.due("64 bits of it", press.at(0, 0, 0), Long.MIN_VALUE);
        press = TypeOneRun.of("#ff80000000 1 #ff00010000 div div hlineto #ff80000000 1 #ff00010000 div div hlineto endchar");
        Kit.due("a sum of two", press.draw(0, 9), 0);
        Kit.due("goes round", press.at(1, 0, 0), 0);
    }

    private static void othersNumbers() {
        Kit.sentence("callothersubr 12 16: the top its number, below it how many NUMBERS n it takes (both cut likewise)");
        outline("5 1 99 callothersubr pop hlineto endchar", "L 5 0");
        outline("5 3 2 div 99 callothersubr pop hlineto endchar", "L 5 0");
        outline("5 1 7 2 div callothersubr pop hlineto endchar", "L 3 0");
        outline("5 0 -1 callothersubr hlineto endchar", "L 5 0");
        outline("5 1 -1 2 div callothersubr pop hlineto endchar", "L 5 0");
        outline("5 1 #ff7fffffff callothersubr pop hlineto endchar", "L 5 0");
        outline("5 1 #ff80000000 callothersubr pop hlineto endchar", "L 5 0");
        outline("5 1 4 div 1 callothersubr hmoveto 1 hlineto endchar", "L 6 0");
    }

    private static void othersTake() {
        Kit.sentence("(both cut likewise; 9 if n is below 0; 2 if there are fewer), these go.");
        int[] below = {-1, -107, -32768};
        for (int n : below) {
            fault("1 2 3 " + n + " 99 callothersubr", 9);
        }
        fault("1 2 3 -1 1000 div 99 callothersubr", 9);
        fault("1 2 3 4 99 callothersubr", 2);
        fault("1 2 3 #ff7fffffff 99 callothersubr", 2);
        fault("1 99 callothersubr", 2);
        fault("0 99 callothersubr endchar", 0);
        outline("9 1 2 3 3 99 callothersubr hlineto endchar", "L 9 0");
        outline("1 ".repeat(21) + "5 22 99 callothersubr pop hlineto endchar", "L 5 0");
        fault("1 ".repeat(22) + "23 99 callothersubr", 2);
    }

    private static void flexBegins() {
        Kit.sentence("1 (n 0): a FLEX begins");
        outline(BEGIN + "5 hmoveto 1 hlineto endchar", "L 6 0");
        outline(BEGIN + KEEP.repeat(3) + BEGIN + KEEP.repeat(7) + "1 2 3 3 0 callothersubr endchar",
                "C 0 0 0 0 0 0 C 0 0 0 0 0 0");
        fault(BEGIN + KEEP.repeat(3) + BEGIN + KEEP.repeat(4) + "1 2 3 3 0 callothersubr endchar", 9);
    }

    private static void flexKeeps() {
        Kit.sentence("2 (n 0): the POINT is kept, the eighth 9; 0, 2 without a FLEX: 9.");
        fault(KEEP, 9);
        fault(SEVEN + "endchar", 0);
        came(SEVEN + KEEP, "fault 9 parts 0 steps 8 hints 0 bytes 36 width 0");
        fault(SEVEN + "1 2 3 3 0 callothersubr " + KEEP, 9);
        fault("1 2 3 3 0 callothersubr", 9);
        fault(SEVEN + "1 2 3 3 0 callothersubr 1 2 3 3 0 callothersubr", 9);
    }

    private static void flexEnds() {
        Kit.sentence("0 (n 3): the FLEX ends: of seven points kept (else 9) two curves by the second to the seventh "
                + "(the first one counts nothing)");
        for (int n = 0; n <= 7; n++) {
            fault(BEGIN + KEEP.repeat(n) + "1 2 3 3 0 callothersubr endchar", n == 7 ? 0 : 9);
        }
        String moves = BEGIN + "100 100 rmoveto " + KEEP + "1 2 rmoveto " + KEEP + "3 4 rmoveto " + KEEP + "5 6 rmoveto " + KEEP
                + "7 8 rmoveto " + KEEP + "9 10 rmoveto " + KEEP + "11 12 rmoveto " + KEEP;
        String curves = "C 101 102 104 106 109 112 C 116 120 125 130 136 142";
        outline(moves + "50 1 2 3 0 callothersubr endchar", curves);
        outline(moves + "50 1 2 3 0 callothersubr 1 hlineto endchar", curves + " L 137 142");
        outline(moves + "3 3 rmoveto 50 1 2 3 0 callothersubr 1 hmoveto endchar", curves + " M 137 142");
        outline("7 8 rmoveto " + moves + "50 1 2 3 0 callothersubr endchar",
                "M 7 8 C 108 110 111 114 116 120 C 123 128 132 138 143 150");
    }

    private static void flexMoves() {
        Kit.sentence("MOVE, but in a FLEX the POINT alone.");
        outline("1 hmoveto " + BEGIN + "2 hmoveto " + KEEP.repeat(7) + "1 2 3 3 0 callothersubr 4 hmoveto endchar",
                "M 1 0 C 3 0 3 0 3 0 C 3 0 3 0 3 0 M 7 0");
        outline(BEGIN + "2 hlineto closepath 1 vmoveto 3 hlineto endchar", "L 2 0 Z L 5 1");
    }

    private static void flexPutsBy() {
        Kit.sentence("and the two uppermost of the three are put by, y below x");
        outline(SEVEN + "50 7 8 3 0 callothersubr pop pop rlineto endchar", "C 0 0 0 0 0 0 C 0 0 0 0 0 0 L 7 8");
        outline(SEVEN + "50 7 8 3 0 callothersubr pop hlineto endchar", "C 0 0 0 0 0 0 C 0 0 0 0 0 0 L 7 0");
        Kit.due("no third", TypeOneRun.fault(SEVEN + "50 7 8 3 0 callothersubr pop pop pop"), 9);
        outline("9 " + SEVEN + "50 7 8 3 0 callothersubr hlineto endchar", "C 0 0 0 0 0 0 C 0 0 0 0 0 0 L 9 0");
    }

    private static void hintsChange() {
        Kit.sentence("3 (n 1): 3 is put by");
        outline("77 1 3 callothersubr pop hlineto endchar", "L 3 0");
        outline("3 1 3 callothersubr pop hlineto endchar", "L 3 0");
        fault("77 1 3 callothersubr pop pop", 9);
    }

    private static void others() {
        Kit.sentence("others: the n NUMBERS are put by, the uppermost to come first.");
        outline("1 2 3 3 4 callothersubr pop hlineto pop hlineto pop hlineto endchar", "L 3 0 L 5 0 L 6 0");
        outline("5 6 2 4 callothersubr pop pop rlineto endchar", "L 6 5");
        fault("0 4 callothersubr pop", 9);
        fault("1 2 3 3 4 callothersubr pop pop pop pop", 9);
        String many = "1 2 3 4 5 6 7 8 9 10 11 12 13 14 15 16 17 18 19 20 21 22 ";
        StringBuilder lines = new StringBuilder("L 22 0");
        int x = 22;
        for (int i = 21; i >= 1; i--) {
            x += i;
            lines.append(" L ").append(x).append(" 0");
        }
        outline(many + "22 4 callothersubr " + "pop hlineto ".repeat(22) + "endchar", lines.toString());
    }

    private static void anotherNumber() {
        Kit.sentence("1 to 3, 0 with another n: 9; 0, 2 without a FLEX: 9.");
        int[] takes = {3, 0, 0, 1};
        for (int number = 0; number <= 3; number++) {
            for (int n = 0; n <= 5; n++) {
                String program = SEVEN + "1 ".repeat(n) + n + " " + number + " callothersubr ";
                boolean can = n == takes[number] && number != 2;
                Kit.due(number + " with n " + n, TypeOneRun.fault(program), can ? 7 : 9);
                program = BEGIN + "1 ".repeat(n) + n + " " + number + " callothersubr ";
                can = n == takes[number] && number != 0;
                Kit.due(number + " with n " + n + ", none kept", TypeOneRun.fault(program), can ? 7 : 9);
            }
        }
        for (int n = 0; n <= 5; n++) {
            Kit.due("4 with n " + n, TypeOneRun.fault("1 ".repeat(n) + n + " 4 callothersubr"), 7);
        }
    }

    private static void pops() {
        Kit.sentence("pop 12 17: what was put by last comes to the PILE (9: there is none).");
        came("pop", "fault 9 parts 0 steps 0 hints 0 bytes 2 width 0");
        came("5 6 2 4 callothersubr pop pop rlineto endchar", "fault 0 parts 1 steps 5 hints 0 bytes 12 width 0");
        outline("9 5 1 4 callothersubr pop rlineto endchar", "L 9 5");
    }

    private static void forgets() {
        Kit.sentence("(A callothersubr forgets what was put by ahead of it.)");
        fault("5 1 4 callothersubr 0 4 callothersubr pop", 9);
        fault("5 1 4 callothersubr " + BEGIN + "pop", 9);
        fault(BEGIN + "5 1 4 callothersubr " + KEEP + "pop", 9);
        outline("5 1 4 callothersubr 6 1 4 callothersubr pop hlineto endchar", "L 6 0");
        fault("5 1 4 callothersubr 6 1 4 callothersubr pop pop", 9);
        fault("5 6 2 4 callothersubr 7 1 3 callothersubr pop pop", 9);
    }

    private static void theLeast() {
        Kit.sentence("What can't be, the first (of one operator the least)");
        Kit.due("2 ahead of 6", TypeOneRun.fault("1 rlineto", 0), 2);
        Kit.due("2 ahead of 9: another n, and too few", TypeOneRun.fault("1 2 3 9 1 callothersubr"), 2);
        Kit.due("2 ahead of 9: div", TypeOneRun.fault("0 div"), 2);
        Kit.due("2 ahead of 4", TypeOneRun.fault("callsubr"), 2);
        Kit.due("1 ahead of all", TypeOneRun.fault(FULL + "#0f", 0), 1);
        Kit.due("9 ahead of 6 is the first", TypeOneRun.fault("1 0 div 1 hlineto", 0), 9);
    }

    private static void runsApart() {
        Kit.sentence("A PILE of NUMBERS; a FLEX, what is kept and what is put by are a run's own");
        CharstringPress press = new CharstringPress();
        Kit.read(press, 1, TypeOneFont.of("5 1 4 callothersubr 1 2", "pop", SEVEN, KEEP, "1 2 3 3 0 callothersubr",
                "1 hmoveto endchar").build());
        press.draw(0, 9);
        Kit.due("nothing is put by", press.draw(1, 9), 9);
        press.draw(2, 9);
        Kit.due("no FLEX", press.draw(3, 9), 9);
        press.draw(2, 9);
        Kit.due("no points kept", press.draw(4, 9), 9);
        press.draw(0, 9);
        press.draw(2, 9);
        Kit.due("an empty PILE, no FLEX", press.draw(5, 9), 0);
        Kit.due("a MOVE", Kit.outline(press), "M 1 0");
    }
}
