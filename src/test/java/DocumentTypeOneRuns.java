/** Term IV of the document, the operators of Type 1, sentence by sentence. */
final class DocumentTypeOneRuns {
    private static final String KEEP = " 0 2 callothersubr ";

    /** A flex from (10, 20) by seven points, of which the first counts nothing. */
    private static final String POINTS = "10 20 rmoveto 0 1 callothersubr 5 5 rmoveto" + KEEP + "-4 -3 rmoveto" + KEEP
            + "1 hmoveto" + KEEP + "2 vmoveto" + KEEP + "3 hmoveto" + KEEP + "4 vmoveto" + KEEP + "5 6 rmoveto" + KEEP;

    private static final String CURVES = "M 10 20 C 11 22 12 22 12 24 C 15 24 15 28 20 34";

    private DocumentTypeOneRuns() {
    }

    static void walk(Walk walk) {
        pile(walk);
        widths(walk);
        lines(walk);
        moves(walk);
        callsAndDiv(walk);
        callOther(walk);
        flexes(walk);
        flexEnds(walk);
        putBy(walk);
        pops(walk);
    }

    private static void outline(String program, String due) {
        Kit.due(program, TypeOneRun.outline(program), due);
    }

    private static void fault(String program, int due) {
        Kit.due(program, TypeOneRun.fault(program), due);
    }

    private static void counts(String operator, int wanted) {
        for (int n = 0; n <= 7; n++) {
            int due = n == wanted ? 0 : 2;
            Kit.due(n + " for " + operator, TypeOneRun.fault("1 ".repeat(n) + operator + " endchar"), due);
        }
    }

    private static void pile(Walk walk) {
        walk.says("TYPE 1. All but subroutines, return, div, callothersubr and pop clear the PILE, and take all of it: hstem 1, "
                + "vstem 3 (two), hstem3 12 2, vstem3 12 1 (six), dotsection 12 0 (none): nothing.");
        counts("#01", 2);
        counts("#03", 2);
        counts("#0c02", 6);
        counts("#0c01", 6);
        counts("#0c00", 0);
        Kit.due("nothing", TypeOneRun.came("1 2 hstem 1 2 vstem 1 2 3 4 5 6 hstem3 1 2 3 4 5 6 vstem3 dotsection endchar"),
                "fault 0 parts 0 steps 6 hints 0 bytes 25 width 0");
        fault("1 2 hstem hlineto", 2);
        outline("1 3 callsubr 8 2 div 9 1 7 callothersubr pop 3 callsubr 1 1 1 rrcurveto endchar", "C 1 4 10 5 11 6");
    }

    private static void widths(Walk walk) {
        walk.says("hsbw 13 (sbx, wx): the WIDTH wx, the POINT (sbx, 0);");
        counts("#0d", 2);
        Kit.due("WIDTH", TypeOneRun.came("30 500 hsbw"), "fault 7 parts 0 steps 1 hints 0 bytes 4 width 500");
        outline("30 500 hsbw 1 2 rmoveto endchar", "M 31 2");
        outline("7 8 rmoveto 30 500 hsbw 1 hlineto endchar", "M 7 8 L 31 0");
        walk.says("sbw 12 7 (four: x, y, WIDTH, of no matter).");
        counts("#0c07", 4);
        Kit.due("WIDTH", TypeOneRun.came("30 40 500 60 sbw"), "fault 7 parts 0 steps 1 hints 0 bytes 7 width 500");
        outline("30 40 500 60 sbw 1 2 rmoveto endchar", "M 31 42");
        walk.says("closepath 9: CLOSE.");
        outline("closepath 1 hmoveto closepath closepath 2 hlineto closepath 3 hlineto endchar", "Z M 1 0 Z Z L 3 0 Z L 6 0");
        counts("closepath", 0);
    }

    private static void lines(Walk walk) {
        walk.says("rlineto 5 (two), hlineto 6, vlineto 7 (one), rrcurveto 8 (six), vhcurveto 30, hvcurveto 31 (four; as above, "
                + "without a fifth),");
        counts("#05", 2);
        counts("#06", 1);
        counts("#07", 1);
        counts("#08", 6);
        counts("#1e", 4);
        counts("#1f", 4);
        outline("1 2 rlineto 3 hlineto 4 vlineto endchar", "L 1 2 L 4 2 L 4 6");
        outline("1 2 3 4 5 6 rrcurveto 1 2 3 4 vhcurveto 1 2 3 4 hvcurveto endchar",
                "C 1 2 4 6 9 12 C 9 13 11 16 15 16 C 16 16 18 19 18 23");
    }

    private static void moves(Walk walk) {
        walk.says("rmoveto 21 (two), hmoveto 22, vmoveto 4 (one): MOVE, but in a FLEX the POINT alone.");
        counts("#15", 2);
        counts("#16", 1);
        counts("#04", 1);
        outline("1 2 rmoveto 3 hmoveto 4 vmoveto 5 hlineto 6 hmoveto endchar", "M 1 2 M 4 2 M 4 6 L 9 6 M 15 6");
        outline("1 2 rmoveto 0 1 callothersubr 3 hmoveto 4 vmoveto 5 6 rmoveto 7 hlineto endchar", "M 1 2 L 16 12");
        walk.says("endchar 14: it ends (without a CLOSE).");
        outline("1 hmoveto 2 hlineto endchar 3 hlineto", "M 1 0 L 3 0");
        counts("#0e", 0);
        Kit.due("in a subroutine too", TypeOneRun.came("6 callsubr 1 hlineto"),
                "fault 0 parts 1 steps 3 hints 0 bytes 3 width 0");
        walk.says("setcurrentpoint 12 33 (two): the POINT goes there.");
        counts("#0c21", 2);
        outline("7 8 rmoveto 30 40 setcurrentpoint 1 2 rlineto endchar", "M 7 8 L 31 42");
    }

    private static void callsAndDiv(Walk walk) {
        walk.says("callsubr 10 (the top; whole, cut towards less), return 11.");
        outline("1 3 callsubr hmoveto endchar", "M 1 0");
        outline("1 7 2 div callsubr hmoveto endchar", "M 1 0");
        fault("1 -1 2 div callsubr", 4);
        fault("callsubr", 2);
        walk.says("div 12 12: a by b (as above, 64 bits).");
        CharstringPress press = TypeOneRun.of("7 -2 div hmoveto -1 3 div vmoveto #ff7fffffff 1 4 div div hlineto endchar");
        press.draw(0, 9);
        Kit.due("7 by -2", press.at(0, 0, 0), -229376);
        Kit.due("-1 by 3, cut towards 0", press.at(1, 0, 1), -21845);
        Kit.due("64 bits", press.at(2, 0, 0) - press.at(1, 0, 0), 4L * 2147483647L * 65536L);
        fault("1 div", 2);
        fault("1 0 div", 9);
    }

    private static void callOther(Walk walk) {
        walk.says("callothersubr 12 16: the top its number, below it how many NUMBERS n it takes (both cut likewise; 9 if n is "
                + "below 0; 2 if there are fewer), these go.");
        fault("callothersubr", 2);
        fault("1 callothersubr", 2);
        fault("0 9 callothersubr endchar", 0);
        fault("5 1 9 callothersubr endchar", 0);
        fault("4 5 1 9 callothersubr endchar", 2);
        fault("5 3 2 div 19 2 div callothersubr endchar", 0);
        outline("5 3 2 div 7 2 div callothersubr pop hmoveto endchar", "M 3 0");
        fault("5 -1 9 callothersubr", 9);
        fault("5 -1 2 div 9 callothersubr", 9);
        fault("5 2 9 callothersubr", 2);
    }

    private static void flexes(Walk walk) {
        walk.says("1 (n 0): a FLEX begins;");
        outline("0 1 callothersubr 1 hmoveto 2 hlineto endchar", "L 3 0");
        walk.says("2 (n 0): the POINT is kept, the eighth 9;");
        fault("0 1 callothersubr" + KEEP.repeat(7) + "endchar", 0);
        fault("0 1 callothersubr" + KEEP.repeat(8) + "endchar", 9);
    }

    private static void flexEnds(Walk walk) {
        walk.says("0 (n 3): the FLEX ends: of seven points kept (else 9) two curves by the second to the seventh (the first one "
                + "counts nothing), and the two uppermost of the three are put by, y below x;");
        outline(POINTS + "50 20 34 3 0 callothersubr endchar", CURVES);
        outline(POINTS + "50 20 34 3 0 callothersubr 1 hmoveto endchar", CURVES + " M 21 34");
        outline(POINTS + "50 70 80 3 0 callothersubr pop pop setcurrentpoint 1 2 rlineto endchar", CURVES + " L 71 82");
        outline(POINTS + "50 70 80 3 0 callothersubr pop hlineto pop vlineto endchar", CURVES + " L 90 34 L 90 114");
        fault(POINTS + "50 70 80 3 0 callothersubr pop pop pop", 9);
        fault("0 1 callothersubr" + KEEP.repeat(6) + "1 2 3 3 0 callothersubr endchar", 9);
        fault("0 1 callothersubr 1 2 3 3 0 callothersubr endchar", 9);
        Kit.due("the second curve above the LIMIT", TypeOneRun.outline(POINTS + "50 20 34 3 0 callothersubr endchar", 2),
                "6: M 10 20 C 11 22 12 22 12 24");
    }

    private static void putBy(Walk walk) {
        walk.says("3 (n 1): 3 is put by;");
        outline("9 1 3 callothersubr pop hmoveto endchar", "M 3 0");
        fault("9 1 3 callothersubr pop pop", 9);
        walk.says("others: the n NUMBERS are put by, the uppermost to come first.");
        outline("7 8 2 4 callothersubr pop hmoveto pop vmoveto endchar", "M 8 0 M 8 7");
        outline("6 7 8 2 -1 callothersubr pop pop 1 1 1 rrcurveto endchar", "C 6 8 13 9 14 10");
        fault("0 12 callothersubr pop", 9);
        walk.says("1 to 3, 0 with another n: 9; 0, 2 without a FLEX: 9.");
        fault("5 1 1 callothersubr", 9);
        fault("0 1 callothersubr 5 1 2 callothersubr", 9);
        fault("0 3 callothersubr", 9);
        fault("5 6 2 3 callothersubr", 9);
        fault(POINTS + "5 6 2 0 callothersubr", 9);
        fault(POINTS + "5 6 7 8 4 0 callothersubr", 9);
        fault("5 6 7 3 0 callothersubr", 9);
        fault("0 2 callothersubr", 9);
        fault(POINTS + "50 20 34 3 0 callothersubr 0 2 callothersubr", 9);
    }

    private static void pops(Walk walk) {
        walk.says("pop 12 17: what was put by last comes to the PILE (9: there is none).");
        outline("7 1 9 callothersubr 5 pop rlineto endchar", "L 5 7");
        fault("pop", 9);
        fault("7 1 9 callothersubr pop pop", 9);
        walk.says("(A callothersubr forgets what was put by ahead of it.)");
        fault("7 8 2 9 callothersubr 0 9 callothersubr pop", 9);
        fault("7 8 2 9 callothersubr 0 1 callothersubr pop", 9);
        outline("7 8 2 9 callothersubr 6 1 9 callothersubr pop hmoveto endchar", "M 6 0");
        fault("7 8 2 9 callothersubr 6 1 9 callothersubr pop pop", 9);
    }
}
