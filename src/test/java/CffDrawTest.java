/** Promises 7 to 11 of the Compact Font Format: programs run to outlines. */
public final class CffDrawTest {
    private static final int NONE = CharstringPress.NONE;

    private CffDrawTest() {
    }

    public static void main(String[] args) {
        lines();
        curves();
        flexes();
        moves();
        widths();
        widthsOfWrongCounts();
        hints();
        numbers();
        arithmetic();
        stackOperators();
        subroutines();
        biases();
        faults();
        wrongCounts();
        steps();
        limits();
        answers();
        Kit.close("CffDrawTest");
    }

    private static void outline(String program, String want) {
        Kit.due(program, CffRun.outline(program + " endchar"), want + " Z");
    }

    private static void came(String program, String want) {
        Kit.due(program, CffRun.came(program), want);
    }

    private static void lines() {
        outline("50 100 rmoveto 10 20 rlineto", "M 50 100 L 60 120");
        outline("1 2 3 4 5 6 rlineto", "L 1 2 L 4 6 L 9 12");
        outline("1 hlineto", "L 1 0");
        outline("1 2 3 hlineto", "L 1 0 L 1 2 L 4 2");
        outline("1 vlineto", "L 0 1");
        outline("1 2 3 4 vlineto", "L 0 1 L 2 1 L 2 4 L 6 4");
        outline("-5 -6 rmoveto 1 hlineto 2 vlineto", "M -5 -6 L -4 -6 L -4 -4");
    }

    private static void curves() {
        outline("1 2 3 4 5 6 rrcurveto", "C 1 2 4 6 9 12");
        outline("1 2 3 4 5 6 1 2 3 4 5 6 rrcurveto", "C 1 2 4 6 9 12 C 10 14 13 18 18 24");
        outline("1 2 3 4 5 6 7 8 rcurveline", "C 1 2 4 6 9 12 L 16 20");
        outline("1 2 3 4 5 6 1 1 1 1 1 1 7 8 rcurveline", "C 1 2 4 6 9 12 C 10 13 11 14 12 15 L 19 23");
        outline("1 2 3 4 5 6 7 8 rlinecurve", "L 1 2 C 4 6 9 12 16 20");
        outline("1 2 3 4 1 1 2 2 3 3 rlinecurve", "L 1 2 L 4 6 C 5 7 7 9 10 12");
        outline("1 2 3 4 vvcurveto", "C 0 1 2 4 2 8");
        outline("9 1 2 3 4 5 6 7 8 vvcurveto", "C 9 1 11 4 11 8 C 11 13 17 20 17 28");
        outline("1 2 3 4 hhcurveto", "C 1 0 3 3 7 3");
        outline("9 1 2 3 4 5 6 7 8 hhcurveto", "C 1 9 3 12 7 12 C 12 12 18 19 26 19");
        outline("1 2 3 4 hvcurveto", "C 1 0 3 3 3 7");
        outline("1 2 3 4 5 hvcurveto", "C 1 0 3 3 8 7");
        outline("1 2 3 4 5 6 7 8 hvcurveto", "C 1 0 3 3 3 7 C 3 12 9 19 17 19");
        outline("1 2 3 4 5 6 7 8 9 hvcurveto", "C 1 0 3 3 3 7 C 3 12 9 19 17 28");
        outline("1 2 3 4 5 6 7 8 1 2 3 4 hvcurveto", "C 1 0 3 3 3 7 C 3 12 9 19 17 19 C 18 19 20 22 20 26");
        outline("1 2 3 4 vhcurveto", "C 0 1 2 4 6 4");
        outline("1 2 3 4 5 vhcurveto", "C 0 1 2 4 6 9");
        outline("1 2 3 4 5 6 7 8 9 vhcurveto", "C 0 1 2 4 6 4 C 11 4 17 11 26 19");
    }

    private static void flexes() {
        outline("1 2 3 4 5 6 7 8 9 10 11 12 50 flex", "C 1 2 4 6 9 12 C 16 20 25 30 36 42");
        outline("1 2 3 4 5 6 7 hflex", "C 1 0 3 3 7 3 C 12 3 18 0 25 0");
        outline("1 2 3 4 5 6 7 8 9 hflex1", "C 1 2 4 6 9 6 C 15 6 22 14 31 0");
        outline("1 2 3 4 5 6 7 8 9 10 11 flex1", "C 1 2 4 6 9 12 C 16 20 25 30 0 41");
        outline("10 2 3 4 5 6 7 8 9 1 11 flex1", "C 10 2 13 6 18 12 C 25 20 34 21 45 0");
        outline("5 0 0 5 0 0 0 0 0 0 7 flex1", "C 5 0 5 5 5 5 C 5 5 5 5 0 12");
        outline("-9 0 0 5 0 0 0 0 0 0 7 flex1", "C -9 0 -9 5 -9 5 C -9 5 -9 5 -2 0");
        outline("0 0 0 -9 0 0 5 0 0 0 7 flex1", "C 0 0 0 -9 0 -9 C 5 -9 5 -9 0 -2");
        outline("100 200 rmoveto 1 2 3 4 5 6 7 8 9 hflex1", "M 100 200 C 101 202 104 206 109 206 C 115 206 122 214 131 200");
        outline("100 200 rmoveto 1 2 3 4 5 6 7 8 9 10 11 flex1",
                "M 100 200 C 101 202 104 206 109 212 C 116 220 125 230 100 241");
    }

    private static void moves() {
        Kit.due("a move alone", CffRun.outline("1 2 rmoveto endchar"), "M 1 2");
        Kit.due("moves", CffRun.outline("1 hmoveto 2 vmoveto 3 4 rmoveto endchar"), "M 1 0 M 1 2 M 4 6");
        Kit.due("a move closes", CffRun.outline("1 hmoveto 2 hlineto 3 vmoveto endchar"), "M 1 0 L 3 0 Z M 3 3");
        Kit.due("a line ahead of any move", CffRun.outline("2 hlineto 3 vmoveto endchar"), "L 2 0 Z M 2 3");
        Kit.due("a curve closes", CffRun.outline("1 2 3 4 hvcurveto 3 hmoveto 1 hlineto endchar"), "C 1 0 3 3 3 7 Z M 6 7 L 7 7 Z");
        Kit.due("nothing", CffRun.outline("endchar"), "");
    }

    private static void widths() {
        String[] first = {"10 20 hstem", "10 20 vstem", "10 20 30 40 hstemhm", "10 20 vstemhm", "10 20 hintmask #00",
            "10 20 cntrmask #00", "hintmask", "cntrmask", "1 2 rmoveto", "1 hmoveto", "1 vmoveto"};
        for (String operator : first) {
            CharstringPress press = CffRun.of(CffFont.of(operator + " endchar", "7 " + operator + " endchar",
                    operator + " 7 endchar").widths(300, 600));
            Kit.due("without: " + operator, press.draw(0, 9), 0);
            Kit.due("its width", press.width(), 300 * 65536L);
            Kit.due("with: " + operator, press.draw(1, 9), 0);
            Kit.due("its width", press.width(), 607 * 65536L);
            Kit.due("one at the second: " + operator, press.draw(2, 9), 2);
            Kit.due("its width", press.width(), 300 * 65536L);
        }
        came("endchar", "fault 0 parts 0 steps 1 hints 0 bytes 1 width 300");
        came("7 endchar", "fault 0 parts 0 steps 1 hints 0 bytes 2 width 607");
        came("-7.5 endchar", "fault 0 parts 0 steps 1 hints 0 bytes 6 width 592+32768");
        came("1 hlineto 2 hlineto 7 endchar", "fault 0 parts 3 steps 3 hints 0 bytes 6 width 607");
        came("1 hlineto #02", "fault 1 parts 1 steps 1 hints 0 bytes 3 width 0");
        came("1 1 add", "fault 7 parts 0 steps 1 hints 0 bytes 4 width 0");
        Kit.due("the lowest goes", CffRun.outline("9 1 2 rmoveto endchar"), "M 1 2");
        Kit.due("the lowest goes", CffRun.outline("9 1 hmoveto endchar"), "M 1 0");
        CharstringPress press = CffRun.of(CffFont.of("1 endchar").widths(Integer.MAX_VALUE, Integer.MAX_VALUE));
        press.draw(0, 0);
        Kit.due("a width of 64 bits", press.width(), (Integer.MAX_VALUE + 1L) * 65536L);
        press = CffRun.of(CffFont.of("1 2 hstem 3 hmoveto endchar", "#02").widths(5, 6));
        press.draw(0, 0);
        Kit.due("the width stays where it can't go on", press.width(), 5 * 65536L);
        press.draw(1, 0);
        Kit.due("0 ahead of any", press.width(), 0);
    }

    /** A wrong count tells no WIDTH: not DEFAULT for it, nor the lowest NUMBER and NOMINAL. */
    private static void widthsOfWrongCounts() {
        for (String stems : new String[] {"hstem", "vstem", "hstemhm", "vstemhm"}) {
            widthTold(stems, 0, 0);
            widthTold(stems, 1, 0);
            widthTold(stems, 2, 300);
            widthTold(stems, 3, 601);
        }
        for (String mask : new String[] {"hintmask #00", "cntrmask #00"}) {
            widthTold(mask, 2, 300);
            widthTold(mask, 3, 601);
        }
        int[][] moves = {{0, 0, 300, 601, 0, 0}, {0, 300, 601, 0, 0, 0}, {0, 300, 601, 0, 0, 0},
            {300, 601, 0, 0, 0, 0}};
        String[] names = {"rmoveto", "hmoveto", "vmoveto", "endchar"};
        for (int k = 0; k < names.length; k++) {
            for (int n = 0; n < moves[k].length; n++) {
                widthTold(names[k], n, moves[k][n]);
            }
        }
        came("1 hintmask", "fault 7 parts 0 steps 1 hints 0 bytes 2 width 601");
        came("1 2 hintmask", "fault 7 parts 0 steps 0 hints 1 bytes 3 width 300");
        came("1 2 3 hintmask", "fault 7 parts 0 steps 0 hints 1 bytes 4 width 601");
        came("1 2 hstem 1 2 3 4 rmoveto", "fault 2 parts 0 steps 1 hints 1 bytes 8 width 300");
        came("9 1 2 hstem 1 2 3 rmoveto", "fault 2 parts 0 steps 1 hints 1 bytes 8 width 609");
        CharstringPress press = CffRun.of(CffFont.of("1 2 rmoveto", "9 1 2 rmoveto").widths(300, 600));
        Kit.due("the count is right, the LIMIT is not", press.draw(0, 0), 6);
        Kit.due("its width", press.width(), 300 * 65536L);
        Kit.due("the count is right, the LIMIT is not", press.draw(1, 0), 6);
        Kit.due("its width", press.width(), 609 * 65536L);
        press = CffRun.of(CffFont.of("9 endchar", "hstem").widths(300, 600));
        press.draw(0, 0);
        Kit.due("the draw ahead of it", press.width(), 609 * 65536L);
        press.draw(1, 0);
        Kit.due("nothing stays of the draw ahead of it", press.width(), 0);
    }

    private static void widthTold(String operator, int numbers, int want) {
        String program = "1 ".repeat(numbers) + operator;
        CharstringPress press = CffRun.of(CffFont.of(program).widths(300, 600));
        press.draw(0, 400);
        Kit.due("width of " + program, press.width(), want * 65536L);
    }

    private static void hints() {
        came("1 2 3 4 hstem 1 2 vstem endchar", "fault 0 parts 0 steps 3 hints 3 bytes 9 width 300");
        came("1 2 hstemhm 1 2 3 4 hintmask #ff endchar", "fault 0 parts 0 steps 3 hints 3 bytes 10 width 300");
        came("7 1 2 3 4 hstem endchar", "fault 0 parts 0 steps 2 hints 2 bytes 7 width 607");
        came("7 1 2 hintmask #00 endchar", "fault 0 parts 0 steps 2 hints 1 bytes 6 width 607");
        came("hintmask endchar", "fault 0 parts 0 steps 2 hints 0 bytes 2 width 300");
        String eight = "1 2 3 4 5 6 7 8 1 2 3 4 5 6 7 8 hstem ";
        came(eight + "cntrmask #0e endchar", "fault 0 parts 0 steps 3 hints 8 bytes 20 width 300");
        came(eight + "1 2 cntrmask #0e0e endchar", "fault 0 parts 0 steps 3 hints 9 bytes 23 width 300");
        came(eight + "1 2 cntrmask #0e", "fault 7 parts 0 steps 1 hints 9 bytes 21 width 300");
        came("1 2 hstem hintmask", "fault 7 parts 0 steps 1 hints 1 bytes 4 width 300");
        came("1 2 hstem hintmask #00", "fault 7 parts 0 steps 2 hints 1 bytes 5 width 300");
        came("1 2 hstem 1 hintmask #00", "fault 2 parts 0 steps 1 hints 1 bytes 5 width 300");
        came("1 hstem", "fault 2 parts 0 steps 0 hints 0 bytes 2 width 0");
        came("hstem", "fault 2 parts 0 steps 0 hints 0 bytes 1 width 0");
        came("1 2 hstem 1 2 3 vstem", "fault 2 parts 0 steps 1 hints 1 bytes 7 width 300");
    }

    private static void numbers() {
        outline("#20 hlineto", "L -107 0");
        outline("#f6 hlineto", "L 107 0");
        outline("#f700 hlineto", "L 108 0");
        outline("#faff hlineto", "L 1131 0");
        outline("#fb00 hlineto", "L -108 0");
        outline("#feff hlineto", "L -1131 0");
        outline("#1c8000 hlineto", "L -32768 0");
        outline("#1c7fff hlineto", "L 32767 0");
        outline("#ff00018000 hlineto", "L 1+32768 0");
        outline("#ffffffffff hlineto", "L -1+65535 0");
        outline("#ff80000000 hlineto", "L -32768 0");
        came("#1c01", "fault 7 parts 0 steps 0 hints 0 bytes 2 width 0");
        came("#1c", "fault 7 parts 0 steps 0 hints 0 bytes 1 width 0");
        came("#ff000000", "fault 7 parts 0 steps 0 hints 0 bytes 4 width 0");
        came("#f7", "fault 7 parts 0 steps 0 hints 0 bytes 1 width 0");
        String many = "1 ".repeat(48);
        came(many + "hlineto endchar", "fault 0 parts 49 steps 2 hints 0 bytes 50 width 300");
        came(many + "1", "fault 3 parts 0 steps 0 hints 0 bytes 49 width 0");
        came(many + "#1c0001 endchar", "fault 3 parts 0 steps 0 hints 0 bytes 51 width 0");
        came("1 2", "fault 7 parts 0 steps 0 hints 0 bytes 2 width 0");
    }

    private static void sum(String program, String want) {
        outline(program + " hlineto", "L " + want + " 0");
        // What is below stays as it is.
        outline("0 0 2 0 " + program + " hlineto", "L 0 0 L 0 0 L 2 0 L 2 0 L " + plusTwo(want) + " 0");
    }

    private static String plusTwo(String told) {
        int plus = told.indexOf('+');
        String whole = plus < 0 ? told : told.substring(0, plus);
        return (Integer.parseInt(whole) + 2) + (plus < 0 ? "" : told.substring(plus));
    }

    private static void arithmetic() {
        sum("7 2 div", "3+32768");
        sum("-7 2 div", "-4+32768");
        sum("1 3 div", "0+21845");
        sum("-1 3 div", "-1+" + (65536 - 21845));
        sum("7 -2 div", "-4+32768");
        sum("#ff00000001 -2 div", "0");
        sum("32767 #ff00000001 div", "0");
        sum("#ff00018000 #ff00000001 div", String.valueOf(-32768));
        sum("3 4 mul", "12");
        sum("-3 1.5 mul", "-5+32768");
        sum("#ffffffffff 0.5 mul", "0");
        sum("30000 2 mul", String.valueOf(60000 - 65536));
        sum("20000 20000 add", String.valueOf(40000 - 65536));
        sum("-20000 20000 sub", String.valueOf(65536 - 40000));
        sum("5 7 sub", "-2");
        sum("5 7 add", "12");
        sum("-3 abs", "3");
        sum("3 abs", "3");
        sum("-32768 abs", "-32768");
        sum("3 neg", "-3");
        sum("-32768 neg", "-32768");
        sum("9 sqrt", "3");
        sum("2 sqrt", "1+27145");
        sum("0 sqrt", "0");
        sum("#ff7fffffff sqrt", "181+1267");
        sum("#ff00000001 sqrt", "0+256");
        sum("5 5 eq", "1");
        sum("5 6 eq", "0");
        sum("0 not", "1");
        sum("-4 not", "0");
        sum("#ff00000001 not", "0");
        sum("3 0 and", "0");
        sum("3 -2 and", "1");
        sum("0 3 and", "0");
        sum("0 0 and", "0");
        sum("3 0 or", "1");
        sum("0 3 or", "1");
        sum("0 0 or", "0");
        sum("1 2 3 4 ifelse", "1");
        sum("1 2 4 4 ifelse", "1");
        sum("1 2 4 3 ifelse", "2");
        came("1 0 div", "fault 9 parts 0 steps 0 hints 0 bytes 4 width 0");
        came("-1 sqrt", "fault 9 parts 0 steps 0 hints 0 bytes 3 width 0");
        came("#12 1 2 3 #0c17", "fault 2 parts 0 steps 0 hints 0 bytes 1 width 0");
    }

    private static void stackOperators() {
        outline("1 2 drop hlineto", "L 1 0");
        outline("1 2 exch hlineto", "L 2 0 L 2 1");
        outline("9 1 2 exch hlineto", "L 9 0 L 9 2 L 10 2");
        outline("9 8 1 put hlineto", "L 9 0");
        outline("5 dup hlineto", "L 5 0 L 5 5");
        outline("7 3 put 3 get 3 get hlineto", "L 7 0 L 7 7");
        outline("7 31 put 31.9 get 0 get hlineto", "L 7 0 L 7 0");
        outline("7 0.5 put 0 get hlineto", "L 7 0");
        outline("10 20 30 0 index hlineto", "L 10 0 L 10 20 L 40 20 L 40 50");
        outline("10 20 30 2 index hlineto", "L 10 0 L 10 20 L 40 20 L 40 30");
        outline("10 20 30 -1 index hlineto", "L 10 0 L 10 20 L 40 20 L 40 50");
        outline("10 20 30 1.9 index hlineto", "L 10 0 L 10 20 L 40 20 L 40 40");
        outline("10 20 30 3 1 roll hlineto", "L 30 0 L 30 10 L 50 10");
        outline("10 20 30 3 -1 roll hlineto", "L 20 0 L 20 30 L 30 30");
        outline("10 20 30 2 1 roll hlineto", "L 10 0 L 10 30 L 30 30");
        outline("10 20 30 40 4 6 roll hlineto", "L 30 0 L 30 40 L 40 40 L 40 60");
        outline("10 20 30 3 -4 roll hlineto", "L 20 0 L 20 30 L 30 30");
        outline("10 20 30 0 5 roll hlineto", "L 10 0 L 10 20 L 40 20");
        outline("10 20 30 3.9 -0.5 roll hlineto", "L 20 0 L 20 30 L 30 30");
        came("1 32 put", "fault 9 parts 0 steps 0 hints 0 bytes 4 width 0");
        came("1 -1 put", "fault 9 parts 0 steps 0 hints 0 bytes 4 width 0");
        came("-0.5 get", "fault 9 parts 0 steps 0 hints 0 bytes 7 width 0");
        came("32 get", "fault 9 parts 0 steps 0 hints 0 bytes 3 width 0");
        came("1 5 index", "fault 9 parts 0 steps 0 hints 0 bytes 4 width 0");
        came("1 1 index", "fault 9 parts 0 steps 0 hints 0 bytes 4 width 0");
        came("0 index", "fault 9 parts 0 steps 0 hints 0 bytes 3 width 0");
        came("1 32767 index", "fault 9 parts 0 steps 0 hints 0 bytes 6 width 0");
        came("1 3 1 roll", "fault 2 parts 0 steps 0 hints 0 bytes 5 width 0");
        came("1 -1 1 roll", "fault 9 parts 0 steps 0 hints 0 bytes 5 width 0");
        String full = "1 ".repeat(48);
        came(full + "dup", "fault 3 parts 0 steps 0 hints 0 bytes 50 width 0");
        came(full + "index endchar", "fault 2 parts 0 steps 1 hints 0 bytes 51 width 0");
        CharstringPress press = CffRun.of(CffFont.of("7 0 put endchar", "0 get hmoveto endchar"));
        press.draw(0, 9);
        press.draw(1, 9);
        Kit.due("each run has its own places", press.at(0, 0, 0), 0);
    }

    private static void subroutines() {
        CffFont font = CffFont.of("1 -107 callsubr 2 hlineto endchar", "1 -106 callgsubr", "-107 callgsubr endchar",
                "-105 callsubr", "-104 callsubr", "-106.5 callsubr 2 hlineto endchar", "-108 callsubr", "callsubr",
                "callgsubr", "return", "-105 callgsubr", "5 -103 callsubr");
        font.local("hmoveto return").local("#02").local("1").local("-104 callsubr").local("hmoveto");
        font.global("-107 callgsubr return").global("hmoveto 3 hlineto endchar");
        CharstringPress press = CffRun.of(font.widths(1, 2));
        Kit.due("a local", Kit.came(press, press.draw(0, 9)), "fault 0 parts 3 steps 5 hints 0 bytes 6 width 1");
        Kit.due("its outline", Kit.outline(press), "M 1 0 L 3 0 Z");
        Kit.due("an end in a global", Kit.came(press, press.draw(1, 9)), "fault 0 parts 3 steps 4 hints 0 bytes 4 width 1");
        Kit.due("one within 10 others", Kit.came(press, press.draw(2, 9)), "fault 5 parts 0 steps 10 hints 0 bytes 2 width 0");
        Kit.due("one without return", Kit.came(press, press.draw(3, 9)), "fault 7 parts 0 steps 1 hints 0 bytes 1 width 0");
        Kit.due("locals within", Kit.came(press, press.draw(4, 9)), "fault 5 parts 0 steps 10 hints 0 bytes 2 width 0");
        Kit.due("cut towards less", Kit.came(press, press.draw(5, 9)), "fault 2 parts 0 steps 1 hints 0 bytes 1 width 0");
        Kit.due("below the first", Kit.came(press, press.draw(6, 9)), "fault 4 parts 0 steps 0 hints 0 bytes 3 width 0");
        Kit.due("of nothing", Kit.came(press, press.draw(7, 9)), "fault 2 parts 0 steps 0 hints 0 bytes 1 width 0");
        Kit.due("of nothing", Kit.came(press, press.draw(8, 9)), "fault 2 parts 0 steps 0 hints 0 bytes 1 width 0");
        Kit.due("return in a letter", Kit.came(press, press.draw(9, 9)), "fault 1 parts 0 steps 0 hints 0 bytes 1 width 0");
        Kit.due("no such global", Kit.came(press, press.draw(10, 9)), "fault 4 parts 0 steps 0 hints 0 bytes 2 width 0");
        Kit.due("a bare end", Kit.came(press, press.draw(11, 9)), "fault 7 parts 1 steps 2 hints 0 bytes 1 width 1");
        press = CffRun.of(CffFont.of("1 -107 callsubr"));
        Kit.due("without locals", press.draw(0, 9), 4);
        CffFont chain = CffFont.of("-107 callsubr endchar", "-106 callsubr endchar");
        for (int i = 0; i < 10; i++) {
            chain.local((i - 106) + " callsubr return");
        }
        chain.local("return");
        press = CffRun.of(chain);
        Kit.due("11 within another", Kit.came(press, press.draw(0, 9)), "fault 5 parts 0 steps 10 hints 0 bytes 2 width 0");
        Kit.due("10 within another", Kit.came(press, press.draw(1, 9)), "fault 0 parts 0 steps 21 hints 0 bytes 3 width 0");
    }

    /** A font with n globals of no bytes but the last, a return. */
    private static int lastGlobal(int n, String program) {
        CffFont font = CffFont.of(program);
        byte[] index = Kit.join(Kit.bytes(n >> 8, n, 1), new byte[n + 1], Kit.bytes(11));
        java.util.Arrays.fill(index, 3, 3 + n, (byte) 1);
        index[3 + n] = 2;
        byte[] letters = CffFont.index(font.letters, 1);
        int at = 15 + 6 + 2 + index.length;
        byte[] all = Kit.join(Kit.bytes(1, 0, 4, 1, 0, 1, 1, 1, 2, 'A', 0, 1, 1, 1, 7), CffFont.long29(at),
                Kit.bytes(17, 0, 0), index, letters);
        CharstringPress press = new CharstringPress();
        Kit.due("read " + n, Kit.read(press, 0, all), 0);
        Kit.due("globals", press.font(3), n);
        return press.draw(0, 9);
    }

    private static void biases() {
        Kit.due("1239: by 107", lastGlobal(1239, (1238 - 107) + " callgsubr endchar"), 0);
        Kit.due("1239: not by 1131", lastGlobal(1239, (1238 - 1131) + " callgsubr endchar"), 7);
        Kit.due("1240: by 1131", lastGlobal(1240, (1239 - 1131) + " callgsubr endchar"), 0);
        Kit.due("1240: not by 107", lastGlobal(1240, (1239 - 107) + " callgsubr endchar"), 4);
    }

    private static void faults() {
        int[] none = {0, 2, 9, 13, 15, 16, 17};
        for (int operator : none) {
            came("1 " + String.format("#%02x", operator), "fault 1 parts 0 steps 0 hints 0 bytes 2 width 0");
        }
        int[] escaped = {0, 1, 2, 6, 7, 8, 13, 16, 17, 19, 23, 25, 31, 32, 33, 38, 40, 255};
        for (int operator : escaped) {
            came("1 1 1 1 1 1 " + String.format("#0c%02x", operator), "fault 1 parts 0 steps 0 hints 0 bytes 8 width 0");
        }
        came("1 hmoveto #0c", "fault 7 parts 1 steps 1 hints 0 bytes 3 width 300");
        came("", "fault 7 parts 0 steps 0 hints 0 bytes 0 width 0");
        came("1 hmoveto", "fault 7 parts 1 steps 1 hints 0 bytes 2 width 300");
        came("1 hmoveto endchar 1 hmoveto", "fault 0 parts 1 steps 2 hints 0 bytes 3 width 300");
    }

    /** The operator can't be with any of these counts of numbers, and can with those between. */
    private static void counts(String operator, int from, String let) {
        for (int n = from; n <= 30; n++) {
            String program = "0 hmoveto " + "1 ".repeat(n) + operator;
            CharstringPress press = CffRun.of(CffFont.of(program));
            boolean can = (" " + let + " ").contains(" " + n + " ");
            Kit.due(operator + " of " + n, press.draw(0, 400), can ? 7 : 2);
            Kit.due("its steps", press.drawn(1), can ? 2 : 1);
            Kit.due("parts where it can't", can ? 1 : press.drawn(0), 1);
        }
    }

    private static void wrongCounts() {
        String even = "2 4 6 8 10 12 14 16 18 20 22 24 26 28 30";
        counts("rlineto", 0, even);
        counts("hstem", 0, even);
        counts("vstemhm", 0, even);
        counts("hlineto", 0, "1 2 3 4 5 6 7 8 9 10 11 12 13 14 15 16 17 18 19 20 21 22 23 24 25 26 27 28 29 30");
        counts("rrcurveto", 0, "6 12 18 24 30");
        counts("rcurveline", 0, "8 14 20 26");
        counts("rlinecurve", 0, "8 10 12 14 16 18 20 22 24 26 28 30");
        String fours = "4 5 8 9 12 13 16 17 20 21 24 25 28 29";
        counts("vvcurveto", 0, fours);
        counts("hhcurveto", 0, fours);
        counts("hvcurveto", 0, fours);
        counts("vhcurveto", 0, fours);
        counts("hflex", 0, "7");
        counts("flex", 0, "13");
        counts("hflex1", 0, "9");
        counts("flex1", 0, "11");
        counts("rmoveto", 0, "2");
        counts("hmoveto", 0, "1");
        counts("vmoveto", 0, "1");
        String[] one = {"not", "abs", "neg", "drop", "get", "sqrt", "dup", "index"};
        String[] two = {"and", "or", "add", "sub", "div", "eq", "put", "mul", "exch", "roll"};
        for (String operator : one) {
            came(operator, "fault 2 parts 0 steps 0 hints 0 bytes 2 width 0");
        }
        for (String operator : two) {
            came(operator, "fault 2 parts 0 steps 0 hints 0 bytes 2 width 0");
            came("0 " + operator, "fault 2 parts 0 steps 0 hints 0 bytes 3 width 0");
        }
        came("1 2 3 ifelse", "fault 2 parts 0 steps 0 hints 0 bytes 5 width 0");
        came("1 2 3 4 rmoveto", "fault 2 parts 0 steps 0 hints 0 bytes 5 width 0");
        came("1 2 endchar", "fault 2 parts 0 steps 0 hints 0 bytes 3 width 0");
        came("1 2 3 4 endchar", "fault 2 parts 0 steps 0 hints 0 bytes 5 width 0");
    }

    private static void steps() {
        // 101 steps a call: itself, 98 times neg, drop and return.
        String local = "1 " + "neg ".repeat(98) + "drop return";
        String calls = "-107 callsubr ".repeat(29);
        String ahead = calls + "0 " + "neg ".repeat(69);
        int bytes = 29 * 2 + 1 + 69 * 2;
        CharstringPress press = CffRun.of(CffFont.of(ahead + "drop endchar", ahead + "neg drop endchar",
                ahead + "neg neg #02", ahead + "neg neg 1").local(local));
        Kit.due("3000 steps", Kit.came(press, press.draw(0, 9)),
                "fault 0 parts 0 steps 3000 hints 0 bytes " + (bytes + 3) + " width 0");
        Kit.due("the 3001st", Kit.came(press, press.draw(1, 9)),
                "fault 8 parts 0 steps 3000 hints 0 bytes " + (bytes + 5) + " width 0");
        Kit.due("the 3001st, ahead of 1", Kit.came(press, press.draw(2, 9)),
                "fault 8 parts 0 steps 3000 hints 0 bytes " + (bytes + 5) + " width 0");
        Kit.due("a number is no step", Kit.came(press, press.draw(3, 9)),
                "fault 7 parts 0 steps 3000 hints 0 bytes " + (bytes + 5) + " width 0");
        press = CffRun.of(CffFont.of(ahead + "neg neg neg", ahead + "neg neg #0c").local(local));
        Kit.due("of two bytes, at its first byte", Kit.came(press, press.draw(0, 9)),
                "fault 8 parts 0 steps 3000 hints 0 bytes " + (bytes + 5) + " width 0");
        Kit.due("ahead of 7", Kit.came(press, press.draw(1, 9)),
                "fault 8 parts 0 steps 3000 hints 0 bytes " + (bytes + 5) + " width 0");
    }

    private static void limits() {
        CharstringPress press = CffRun.of(CffFont.of("0 hmoveto 1 2 3 hlineto endchar", "1 hlineto 5 hmoveto endchar",
                "1 2 3 4 5 6 1 2 3 4 5 6 rrcurveto endchar", "endchar", "1 2 3 4 5 6 7 hflex"));
        for (int limit = 0; limit <= 4; limit++) {
            Kit.due("limit " + limit, press.draw(0, limit), 6);
            Kit.due("parts", press.drawn(0), limit);
            Kit.due("steps", press.drawn(1), limit == 0 ? 0 : limit == 4 ? 2 : 1);
            Kit.due("none above", press.part(limit), NONE);
        }
        Kit.due("limit 5", press.draw(0, 5), 0);
        Kit.due("a close that is not there", press.draw(1, 1), 6);
        Kit.due("its outline", Kit.outline(press), "L 1 0");
        Kit.due("a close, and no move", press.draw(1, 2), 6);
        Kit.due("its outline", Kit.outline(press), "L 1 0 Z");
        Kit.due("one curve", press.draw(2, 1), 6);
        Kit.due("its outline", Kit.outline(press), "C 1 2 4 6 9 12");
        Kit.due("none are none", press.draw(3, 0), 0);
        Kit.due("half a flex", press.draw(4, 1), 6);
        Kit.due("its outline", Kit.outline(press), "C 1 0 3 3 7 3");
        Kit.due("no flex", press.draw(4, 0), 6);
        String many = ("1 ".repeat(48) + "hlineto ").repeat(9);
        press = CffRun.of(CffFont.of(many));
        Kit.due("400 parts", press.draw(0, 400), 6);
        Kit.due("are there", press.drawn(0), 400);
        Kit.due("the last", press.part(399), 1);
        Kit.due("its x", press.at(399, 0, 0), 200 * 65536L);
        Kit.due("none above", press.part(400), NONE);
    }

    private static void answers() {
        CharstringPress press = CffRun.of(CffFont.of("1 2 rmoveto 3 4 rlineto 1 2 3 4 5 6 rrcurveto endchar", "#02"));
        Kit.due("draw", press.draw(0, 400), 0);
        int[] kinds = {0, 1, 2, 3, NONE};
        for (int i = 0; i < 5; i++) {
            Kit.due("part " + i, press.part(i), kinds[i]);
        }
        Kit.due("part -1", press.part(-1), NONE);
        Kit.due("part of the greatest", press.part(Integer.MAX_VALUE), NONE);
        Kit.due("x", press.at(0, 0, 0), 65536);
        Kit.due("y", press.at(0, 0, 1), 2 * 65536);
        Kit.due("way 2", press.at(0, 0, 2), 0);
        Kit.due("way 2 of a curve", press.at(2, 0, 2), 0);
        Kit.due("way -1", press.at(0, 0, -1), 0);
        Kit.due("point 1 of a move", press.at(0, 1, 0), 0);
        Kit.due("point 1 of a line", press.at(1, 1, 0), 0);
        Kit.due("point 2 of a curve", press.at(2, 2, 1), 18 * 65536);
        Kit.due("point 3 of a curve", press.at(2, 3, 0), 0);
        Kit.due("point -1 of a curve", press.at(2, -1, 0), 0);
        Kit.due("point of a close", press.at(3, 0, 0), 0);
        Kit.due("point of no part", press.at(4, 0, 0), 0);
        Kit.due("point of no part", press.at(-1, 0, 0), 0);
        Kit.due("drawn(4)", press.drawn(4), NONE);
        Kit.due("drawn(-1)", press.drawn(-1), NONE);
        int[] letters = {-1, 2, 40, Integer.MAX_VALUE, Integer.MIN_VALUE, 0, 0, 0};
        int[] limits = {9, 9, 9, 9, 9, -1, 401, Integer.MIN_VALUE};
        for (int i = 0; i < letters.length; i++) {
            Kit.due("draw " + letters[i] + " " + limits[i], press.draw(letters[i], limits[i]), NONE);
        }
        Kit.due("nothing happened", Kit.came(press, 0), "fault 0 parts 4 steps 4 hints 0 bytes 14 width 0");
        Kit.read(press, 1, TypeOneFont.of("1 2 hsbw endchar").build());
        Kit.due("it stays behind a read", Kit.came(press, 0), "fault 0 parts 4 steps 4 hints 0 bytes 14 width 0");
        Kit.due("its outline too", Kit.outline(press), "M 1 2 L 4 6 C 5 8 8 12 13 18 Z");
        Kit.due("a letter of the new font", Kit.came(press, press.draw(0, 9)), "fault 0 parts 0 steps 2 hints 0 bytes 4 width 2");
        Kit.due("no part of the old one", press.part(0), NONE);
        press = CffRun.of(CffFont.of("1 2 3 4 5 6 rrcurveto 1 2 3 4 5 6 rrcurveto endchar", "1 hmoveto 2 hlineto endchar"));
        press.draw(0, 9);
        press.draw(1, 9);
        Kit.due("no point of a curve that was there", press.at(0, 1, 0), 0);
        Kit.due("no point of a curve that was there", press.at(1, 1, 1), 0);
    }
}
