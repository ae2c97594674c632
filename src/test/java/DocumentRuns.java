/** Term IV of the document, what stands there ahead of the two families' operators, sentence by sentence. */
final class DocumentRuns {
    private DocumentRuns() {
    }

    static void walk(Walk walk) {
        walk.tells("IV. RUNS.");
        pileAndOutline(walk);
        steps(walk);
        operatorsAndCounts(walk);
        subroutines(walk);
        bytesEnd(walk);
        numbers(walk);
    }

    private static void cff(String program, int fault) {
        Kit.due("CFF: " + program, CffRun.fault(program), fault);
    }

    private static void typeOne(String program, int fault) {
        Kit.due("Type 1: " + program, TypeOneRun.fault(program), fault);
    }

    private static void pileAndOutline(Walk walk) {
        walk.says("A PILE of NUMBERS.");
        Kit.due("the last one uppermost", CffRun.pile("1 2 3 4 sub"), "1 2 -1");
        walk.says("OUTLINE: PARTS: 0 MOVE (x, y), 1 LINE (x, y), 2 CURVE (three points), 3 CLOSE.");
        CharstringPress press = CffRun.of(CffFont.of("1 2 rmoveto 3 4 rlineto 5 6 7 8 9 10 rrcurveto endchar"));
        press.draw(0, 9);
        Kit.due("all four", Kit.outline(press), "M 1 2 L 4 6 C 9 12 16 20 25 30 Z");
        walk.says("The POINT is (0, 0) at first; dx, dy are from it on.");
        Kit.due("CFF", CffRun.outline("3 hlineto 4 vlineto endchar"), "L 3 0 L 3 4 Z");
        Kit.due("Type 1", TypeOneRun.outline("3 hlineto 4 vlineto endchar"), "L 3 0 L 3 4");
        walk.says("All that draws has the POINT go along.");
        Kit.due("move, line, curve, flex", CffRun.outline("1 hmoveto 1 vlineto 1 1 1 1 1 1 rrcurveto "
                + "1 1 1 1 1 1 1 hflex 1 hlineto endchar"), "M 1 0 L 1 1 C 2 2 3 3 4 4 C 5 4 6 5 7 5 C 8 5 9 4 10 4 L 11 4 Z");
    }

    private static void steps(Walk walk) {
        walk.says("STEPS are operators done; the 3001st: 8, at its first byte, ahead of all others of it.");
        String hundred = "1 " + "neg ".repeat(98) + "drop return";
        String most = "-107 callsubr ".repeat(29) + "0 " + "neg ".repeat(70);
        String[] last = {"abs", "#0c", "#02", "rlineto", "0 div"};
        for (String operator : last) {
            CharstringPress press = CffRun.of(CffFont.of(most + "drop " + operator).local(hundred));
            Kit.due("the 3001st: " + operator, press.draw(0, 9), 8);
            Kit.due("steps", press.drawn(1), 3000);
            Kit.due("bytes", press.drawn(3), 58 + 1 + 140 + 2 + 1 + (operator.startsWith("0 ") ? 1 : 0));
        }
        CharstringPress press = CffRun.of(CffFont.of(most + "endchar").local(hundred).widths(0, 0));
        Kit.due("3000", press.draw(0, 9), 0);
        Kit.due("steps", press.drawn(1), 3000);
        Kit.due("one that can't be is not done", CffRun.came("1 neg neg add"),
                "fault 2 parts 0 steps 2 hints 0 bytes 7 width 0");
        walk.says("PARTS above the LIMIT: 6 (it is not there).");
        Kit.due("two of three lines", CffRun.outline("1 2 3 hlineto endchar", 2), "6: L 1 0 L 1 2");
        Kit.due("a CLOSE above it", CffRun.outline("1 2 3 hlineto endchar", 3), "6: L 1 0 L 1 2 L 4 2");
        Kit.due("as many as there may be", CffRun.outline("1 2 3 hlineto endchar", 4), "L 1 0 L 1 2 L 4 2 Z");
        Kit.due("Type 1", TypeOneRun.outline("1 hlineto closepath endchar", 1), "6: L 1 0");
    }

    private static void operatorsAndCounts(Walk walk) {
        walk.says("What can't be, the first (of one operator the least): 1 an operator that is none "
                + "(return in a LETTER itself, too);");
        int[] noneOfCff = {0, 2, 9, 13, 15, 16, 17};
        for (int b : noneOfCff) {
            cff(String.format("#%02x", b), 1);
        }
        int[] noneOfTypeOne = {0, 2, 15, 16, 17, 18, 19, 20, 23, 24, 25, 26, 27, 28, 29};
        for (int b : noneOfTypeOne) {
            typeOne(String.format("#%02x", b), 1);
        }
        cff("#0c00", 1);
        typeOne("#0c06", 1);
        cff("return", 1);
        typeOne("return", 1);
        cff("1 0 div return", 9);
        cff("return 1 0 div", 1);
        cff("0 div", 2);
        cff("#02 #00", 1);
        walk.says("2 too few NUMBERS on the PILE, or not as many as told;");
        cff("1 add", 2);
        cff("1 2 3 rlineto", 2);
        typeOne("1 div", 2);
        typeOne("1 2 3 rlineto", 2);
        walk.says("3 the PILE has 48 (Type 1: 24) and one comes;");
        cff("1 ".repeat(48) + "hlineto endchar", 0);
        cff("1 ".repeat(49), 3);
        cff("1 ".repeat(48) + "dup", 3);
        typeOne("1 ".repeat(22) + "22 9 callothersubr endchar", 0);
        typeOne("1 ".repeat(25), 3);
        typeOne("1 1 5 callothersubr " + "1 ".repeat(24) + "pop", 3);
    }

    private static void subroutines(Walk walk) {
        walk.says("4 a subroutine that there is not;");
        cff("-107 callsubr", 4);
        cff("-107 callgsubr", 4);
        typeOne("20 callsubr", 4);
        typeOne("-1 callsubr", 4);
        Kit.due("LOCAL 9 is not told", TypeOneRun.fault("9 callsubr"), 4);
        walk.says("5 one within 10 others;");
        CffFont ten = CffFont.of("-107 callsubr endchar");
        CffFont eleven = CffFont.of("-107 callsubr endchar");
        for (int i = 0; i < 11; i++) {
            ten.local(i < 9 ? i - 106 + " callsubr return" : "return");
            eleven.local(i < 10 ? i - 106 + " callsubr return" : "return");
        }
        Kit.due("ten", CffRun.of(ten).draw(0, 9), 0);
        Kit.due("eleven", CffRun.of(eleven).draw(0, 9), 5);
        typeOne("7 callsubr", 5);
    }

    private static void bytesEnd(Walk walk) {
        walk.says("7 the bytes end (of a LETTER without its end, of a subroutine without return), or a NUMBER's, a mask's do;");
        cff("", 7);
        cff("1 hmoveto", 7);
        typeOne("1 hmoveto", 7);
        typeOne("5 callsubr endchar", 7);
        Kit.due("a subroutine without return", CffRun.of(CffFont.of("-107 callsubr endchar").local("1")).draw(0, 9), 7);
        String[] cut = {"#1c", "#1c00", "#f7", "#fe", "#ff", "#ff000000"};
        for (String number : cut) {
            cff(number, 7);
        }
        typeOne("#f7", 7);
        typeOne("#ff000000", 7);
        cff("#0c", 7);
        cff("1 2 hintmask", 7);
        cff("1 2 hstem cntrmask", 7);
        walk.says("9 by 0, a root of less than 0, a place that there is none.");
        cff("1 0 div", 9);
        typeOne("1 0 div", 9);
        cff("-1 sqrt", 9);
        cff("#ffffffffff sqrt", 9);
        cff("1 32 put", 9);
        cff("-1 get", 9);
        cff("1 1 index", 9);
        typeOne("pop", 9);
    }

    private static void numbers(Walk walk) {
        walk.says("NUMBERS among the bytes: 28 (CFF alone), 32 to 254 as in II;");
        Kit.due("28", CffRun.pile("#1c1234 #1cfffe"), "4660 -2");
        typeOne("#1c0001", 1);
        Kit.due("32, 246", CffRun.pile("#20 #f6"), "-107 107");
        Kit.due("247 to 250", CffRun.pile("#f700 #faff"), "108 1131");
        Kit.due("251 to 254", CffRun.pile("#fb00 #feff"), "-108 -1131");
        Kit.due("Type 1", TypeOneRun.outline("#20 #f6 rlineto #f700 #faff rlineto #fb00 #feff rlineto endchar"),
                "L -107 107 L 1 1238 L -107 107");
        walk.says("255 and four bytes: CFF: FIXED as they are; Type 1: a whole one.");
        Kit.due("CFF", CffRun.pile("#ff00018000 #ffffffffff"), "1+32768 -1+65535");
        Kit.due("Type 1", TypeOneRun.outline("#ff00018000 #ffffffffff rlineto endchar"), "L 98304 -1");
    }
}
