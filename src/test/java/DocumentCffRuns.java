/** Term IV of the document, the operators of CFF, sentence by sentence. */
final class DocumentCffRuns {
    private DocumentCffRuns() {
    }

    static void walk(Walk walk) {
        pile(walk);
        widths(walk);
        hints(walk);
        moves(walk);
        lines(walk);
        curves(walk);
        straightCurves(walk);
        turningCurves(walk);
        flexes(walk);
        flexesBack(walk);
        subroutines(walk);
        arithmetic(walk);
        sums(walk);
        places(walk);
        roll(walk);
    }

    private static void outline(String program, String due) {
        Kit.due(program, CffRun.outline(program), due);
    }

    private static void fault(String program, int due) {
        Kit.due(program, CffRun.fault(program), due);
    }

    private static void width(String program, String due) {
        Kit.due(program, CffRun.width(program), due);
    }

    private static void reckoned(String program, String due) {
        Kit.due(program, CffRun.pile(program), due);
    }

    private static void pile(Walk walk) {
        walk.says("CFF. An operator takes all of the PILE, and clears it, but subroutines, return and arithmetic.");
        outline("1 2 rlineto 3 4 rlineto endchar", "L 1 2 L 4 6 Z");
        fault("1 2 3 vmoveto", 2);
        String[] clearing = {"1 2 hstem", "1 2 hintmask #00", "1 hmoveto", "1 hlineto", "1 2 3 4 5 6 rrcurveto",
            "1 2 3 4 5 6 7 hflex"};
        for (String operator : clearing) {
            Kit.due("cleared by " + operator, CffRun.fault(operator + " drop"), 2);
        }
        CharstringPress press = CffRun.of(CffFont.of("1 2 -107 callsubr -107 callgsubr hlineto endchar").local("3 return")
                .global("4 add return"));
        press.draw(0, 9);
        Kit.due("kept by calls, returns and sums", Kit.outline(press), "L 1 0 L 1 2 L 8 2 Z");
    }

    private static void widths(Walk walk) {
        walk.says("The first of hstem 1, vstem 3, hstemhm 18, vstemhm 23, hintmask 19, cntrmask 20, rmoveto 21, hmoveto 22, "
                + "vmoveto 4, endchar 14 may have one NUMBER more, the lowest: the WIDTH is that and NOMINAL (without: DEFAULT; "
                + "a wrong count tells none).");
        String[] operators = {"1 2 hstem", "1 2 vstem", "1 2 hstemhm", "1 2 vstemhm", "1 2 hintmask #00", "1 2 cntrmask #00",
            "hintmask", "cntrmask", "1 2 rmoveto", "1 hmoveto", "1 vmoveto", "endchar"};
        for (String operator : operators) {
            width("50 " + operator + " endchar", "650");
            width(operator + " endchar", "300");
            width("9 hlineto -0.5 " + operator + " endchar", "599+32768");
            if (!operator.equals("endchar")) {
                Kit.due("one more at the second: " + operator, CffRun.fault("1 hmoveto 50 " + operator + " endchar"), 2);
                width("70 " + operator + " 1 hmoveto endchar", "670");
            }
        }
        String[] wrong = {"hstem", "1 vstem", "hmoveto", "1 2 3 vmoveto", "1 rmoveto", "1 2 3 4 rmoveto", "1 2 endchar"};
        for (String operator : wrong) {
            width(operator, "0");
        }
    }

    private static void hints(Walk walk) {
        walk.says("Stems: pairs, one at least; each pair is a HINT.");
        String[] stems = {"hstem", "vstem", "hstemhm", "vstemhm"};
        for (String stem : stems) {
            Kit.due(stem, CffRun.came("1 2 3 4 5 6 " + stem), "fault 7 parts 0 steps 1 hints 3 bytes 7 width 300");
            Kit.due(stem + " again", CffRun.came("1 2 " + stem + " 3 4 " + stem),
                    "fault 7 parts 0 steps 2 hints 2 bytes 6 width 300");
            fault(stem, 2);
            fault("1 hmoveto 1 2 3 " + stem, 2);
        }
        walk.says("Masks: pairs, perhaps none (HINTS too), then as many bytes as all HINTS take bits (eight a byte; the HINTS "
                + "count though these end).");
        String[] masks = {"hintmask", "cntrmask"};
        for (String mask : masks) {
            Kit.due("no hints", CffRun.came(mask + " endchar"), "fault 0 parts 0 steps 2 hints 0 bytes 2 width 300");
            Kit.due("two hints", CffRun.came("1 2 3 4 " + mask + " #0e endchar"),
                    "fault 0 parts 0 steps 2 hints 2 bytes 7 width 300");
            Kit.due("eight hints", CffRun.came("1 2 ".repeat(7) + "hstem 1 2 " + mask + " #0e endchar"),
                    "fault 0 parts 0 steps 3 hints 8 bytes 20 width 300");
            Kit.due("nine hints", CffRun.came("1 2 ".repeat(7) + "hstem 1 2 3 4 " + mask + " #0e0e endchar"),
                    "fault 0 parts 0 steps 3 hints 9 bytes 23 width 300");
            Kit.due("these end", CffRun.came("1 2 ".repeat(7) + "hstem 1 2 3 4 " + mask + " #0e"),
                    "fault 7 parts 0 steps 1 hints 9 bytes 21 width 300");
            fault("hintmask 1 " + mask, 2);
        }
    }

    private static void moves(Walk walk) {
        walk.says("Moves: two, one (x), one (y): CLOSE if a LINE or CURVE came since the last MOVE, then MOVE.");
        outline("1 2 rmoveto 3 hmoveto 4 vmoveto endchar", "M 1 2 M 4 2 M 4 6");
        outline("1 2 rmoveto 3 hlineto 3 hmoveto 1 2 3 4 5 6 rrcurveto 4 vmoveto 1 hmoveto endchar",
                "M 1 2 L 4 2 Z M 7 2 C 8 4 11 8 16 14 Z M 16 18 M 17 18");
        walk.says("endchar: none; CLOSE likewise; it ends.");
        outline("1 hmoveto 2 hlineto endchar 3 hlineto #02", "M 1 0 L 3 0 Z");
        outline("1 hmoveto endchar", "M 1 0");
        outline("endchar", "");
        fault("1 hmoveto 1 endchar", 2);
        fault("1 2 endchar", 2);
        walk.says("A line or curve ahead of any MOVE is let.");
        outline("1 2 rlineto 1 hmoveto endchar", "L 1 2 Z M 2 2");
        outline("1 2 3 4 5 6 rrcurveto endchar", "C 1 2 4 6 9 12 Z");
    }

    private static void lines(Walk walk) {
        walk.says("rlineto 5: pairs, one at least.");
        outline("1 2 rlineto endchar", "L 1 2 Z");
        outline("1 2 3 4 5 6 rlineto endchar", "L 1 2 L 4 6 L 9 12 Z");
        fault("rlineto", 2);
        fault("1 rlineto", 2);
        fault("1 2 3 rlineto", 2);
        walk.says("hlineto 6, vlineto 7: one at least, by turns along x and y (6: x first).");
        outline("1 hlineto endchar", "L 1 0 Z");
        outline("1 vlineto endchar", "L 0 1 Z");
        outline("1 2 3 4 hlineto endchar", "L 1 0 L 1 2 L 4 2 L 4 6 Z");
        outline("1 2 3 vlineto endchar", "L 0 1 L 2 1 L 2 4 Z");
        fault("hlineto", 2);
        fault("vlineto", 2);
    }

    private static void curves(Walk walk) {
        walk.says("rrcurveto 8: sixes, one at least: three pairs, each from the point ahead.");
        outline("1 1 rmoveto 1 2 3 4 5 6 -1 -2 -3 -4 -5 -6 rrcurveto endchar",
                "M 1 1 C 2 3 5 7 10 13 C 9 11 6 7 1 1 Z");
        fault("rrcurveto", 2);
        fault("1 2 3 4 5 rrcurveto", 2);
        fault("1 2 3 4 5 6 7 rrcurveto", 2);
        walk.says("rcurveline 24: sixes, then a pair.");
        outline("1 2 3 4 5 6 7 8 rcurveline endchar", "C 1 2 4 6 9 12 L 16 20 Z");
        outline("1 2 3 4 5 6 1 2 3 4 5 6 7 8 rcurveline endchar", "C 1 2 4 6 9 12 C 10 14 13 18 18 24 L 25 32 Z");
        fault("1 2 3 4 5 6 rcurveline", 2);
        fault("1 2 3 4 5 6 7 rcurveline", 2);
        fault("1 2 3 4 5 6 7 8 9 10 rcurveline", 2);
        walk.says("rlinecurve 25: pairs, one at least, then a six.");
        outline("7 8 1 2 3 4 5 6 rlinecurve endchar", "L 7 8 C 8 10 11 14 16 20 Z");
        outline("7 8 9 10 1 2 3 4 5 6 rlinecurve endchar", "L 7 8 L 16 18 C 17 20 20 24 25 30 Z");
        fault("1 2 3 4 5 6 rlinecurve", 2);
        fault("9 1 2 3 4 5 6 rlinecurve", 2);
        fault("7 8 9 1 2 3 4 5 6 rlinecurve", 2);
    }

    private static void straightCurves(Walk walk) {
        walk.says("vvcurveto 26: (dx1 if odd) then fours dya dxb dyb dyc: the first control dx1 (0 later) and dya, then "
                + "dxb dyb, then dyc along y.");
        outline("1 2 3 4 vvcurveto endchar", "C 0 1 2 4 2 8 Z");
        outline("9 1 2 3 4 vvcurveto endchar", "C 9 1 11 4 11 8 Z");
        outline("9 1 2 3 4 5 6 7 8 vvcurveto endchar", "C 9 1 11 4 11 8 C 11 13 17 20 17 28 Z");
        fault("1 2 3 vvcurveto", 2);
        fault("1 2 3 4 5 6 vvcurveto", 2);
        fault("1 2 3 4 5 6 7 vvcurveto", 2);
        walk.says("hhcurveto 27: (dy1 if odd) then fours dxa dxb dyb dxc likewise.");
        outline("1 2 3 4 hhcurveto endchar", "C 1 0 3 3 7 3 Z");
        outline("9 1 2 3 4 hhcurveto endchar", "C 1 9 3 12 7 12 Z");
        outline("9 1 2 3 4 5 6 7 8 hhcurveto endchar", "C 1 9 3 12 7 12 C 12 12 18 19 26 19 Z");
        fault("1 2 3 hhcurveto", 2);
        fault("1 2 3 4 5 6 hhcurveto", 2);
        fault("1 2 3 4 5 6 7 hhcurveto", 2);
    }

    private static void turningCurves(Walk walk) {
        walk.says("hvcurveto 31, vhcurveto 30: fours by turns: begun along x (31; 30: y): da along it, dxb dyb, dc along the "
                + "other one; the next one is begun along the other; the last four may have a fifth: what the end goes along "
                + "the first of its two.");
        outline("1 2 3 4 hvcurveto endchar", "C 1 0 3 3 3 7 Z");
        outline("1 2 3 4 vhcurveto endchar", "C 0 1 2 4 6 4 Z");
        outline("1 2 3 4 9 hvcurveto endchar", "C 1 0 3 3 12 7 Z");
        outline("1 2 3 4 9 vhcurveto endchar", "C 0 1 2 4 6 13 Z");
        outline("1 2 3 4 5 6 7 8 hvcurveto endchar", "C 1 0 3 3 3 7 C 3 12 9 19 17 19 Z");
        outline("1 2 3 4 5 6 7 8 9 hvcurveto endchar", "C 1 0 3 3 3 7 C 3 12 9 19 17 28 Z");
        outline("1 2 3 4 5 6 7 8 9 vhcurveto endchar", "C 0 1 2 4 6 4 C 11 4 17 11 26 19 Z");
        outline("1 2 3 4 1 2 3 4 1 2 3 4 5 vhcurveto endchar", "C 0 1 2 4 6 4 C 7 4 9 7 9 11 C 9 12 11 15 15 20 Z");
        String[] operators = {"hvcurveto", "vhcurveto"};
        for (String operator : operators) {
            fault("1 2 3 " + operator, 2);
            fault("1 2 3 4 5 6 " + operator, 2);
            fault("1 2 3 4 5 6 7 " + operator, 2);
            fault("1 2 3 4 5 6 7 8 9 10 " + operator, 2);
        }
    }

    private static void flexes(Walk walk) {
        walk.says("flex 12 35: thirteen: two curves, the last NUMBER of no matter.");
        outline("1 2 3 4 5 6 7 8 9 10 11 12 50 flex endchar", "C 1 2 4 6 9 12 C 16 20 25 30 36 42 Z");
        outline("1 2 3 4 5 6 7 8 9 10 11 12 -9 flex endchar", "C 1 2 4 6 9 12 C 16 20 25 30 36 42 Z");
        fault("1 2 3 4 5 6 7 8 9 10 11 12 flex", 2);
        fault("1 2 3 4 5 6 7 8 9 10 11 12 13 14 flex", 2);
        walk.says("hflex 12 34: dx1 dx2 dy2 dx3 dx4 dx5 dx6: (dx1 0)(dx2 dy2)(dx3 0), (dx4 0)(dx5 -dy2)(dx6 0).");
        outline("0 7 rmoveto 1 2 30 4 5 6 7 hflex endchar", "M 0 7 C 1 7 3 37 7 37 C 12 37 18 7 25 7 Z");
        fault("1 2 3 4 5 6 hflex", 2);
        fault("1 2 3 4 5 6 7 8 hflex", 2);
        walk.says("hflex1 12 36: dx1 dy1 dx2 dy2 dx3 dx4 dx5 dy5 dx6: the last goes to the y it began at.");
        outline("0 7 rmoveto 1 20 3 40 5 6 7 80 9 hflex1 endchar", "M 0 7 C 1 27 4 67 9 67 C 15 67 22 147 31 7 Z");
        fault("1 2 3 4 5 6 7 8 hflex1", 2);
        fault("1 2 3 4 5 6 7 8 9 10 hflex1", 2);
    }

    private static void flexesBack(Walk walk) {
        walk.says("flex1 12 37: five pairs and d6: the end is along x from the fifth, if the pairs' sum has a greater size in "
                + "x than in y, and at the y it began at; else along y, at the x it began at.");
        outline("3 7 rmoveto 10 1 10 1 10 1 10 1 10 1 50 flex1 endchar", "M 3 7 C 13 8 23 9 33 10 C 43 11 53 12 103 7 Z");
        outline("3 7 rmoveto 1 10 1 10 1 10 1 10 1 10 50 flex1 endchar", "M 3 7 C 4 17 5 27 6 37 C 7 47 8 57 3 107 Z");
        outline("-10 1 -10 1 -10 1 -10 1 -10 1 5 flex1 endchar", "C -10 1 -20 2 -30 3 C -40 4 -50 5 -45 0 Z");
        outline("1 1 1 1 1 1 1 1 1 1 5 flex1 endchar", "C 1 1 2 2 3 3 C 4 4 5 5 0 10 Z");
        outline("100 90 -100 -80 1 1 1 1 1 1 5 flex1 endchar", "C 100 90 0 10 1 11 C 2 12 3 13 0 18 Z");
        fault("1 2 3 4 5 6 7 8 9 10 flex1", 2);
        fault("1 2 3 4 5 6 7 8 9 10 11 12 flex1", 2);
    }

    /** Letter 0 calls; the subroutines, so many, are empty but for one. */
    private static CharstringPress called(String program, int globals, int filled) {
        CffFont font = CffFont.of(program).local("5 hmoveto endchar").local("6 hmoveto endchar");
        for (int i = 0; i < globals; i++) {
            font.global(i == filled ? "7 hmoveto endchar" : "");
        }
        CffParts parts = new CffParts();
        parts.globals = CffFont.index(font.globals, 1);
        parts.letters = CffFont.index(font.letters, 1);
        parts.locals = CffFont.index(font.locals, 1);
        CharstringPress press = new CharstringPress();
        Kit.due("read", Kit.read(press, 0, parts.build()), 0);
        press.draw(0, 9);
        return press;
    }

    private static void subroutines(Walk walk) {
        walk.says("callsubr 10, callgsubr 29: the top of the PILE (a whole one, cut towards less) and 107 (fewer than 1240 in "
                + "their INDEX; 1131 fewer than 33900; else 32768); return 11.");
        Kit.due("LOCAL 0", Kit.outline(called("-107 callsubr", 1, 0)), "M 5 0");
        Kit.due("LOCAL 1", Kit.outline(called("-106 callsubr", 1, 0)), "M 6 0");
        Kit.due("LOCAL 0, cut towards less", Kit.outline(called("-106.5 callsubr", 1, 0)), "M 5 0");
        Kit.due("LOCAL 1, cut towards less", Kit.outline(called("-105.25 callsubr", 1, 0)), "M 6 0");
        Kit.due("GLOBAL 0", Kit.outline(called("-107 callgsubr", 1, 0)), "M 7 0");
        Kit.due("the last of 1239", Kit.outline(called("1131 callgsubr", 1239, 1238)), "M 7 0");
        Kit.due("the last of 1240", Kit.outline(called("108 callgsubr", 1240, 1239)), "M 7 0");
        Kit.due("the first of 1240", Kit.outline(called("-1131 callgsubr", 1240, 0)), "M 7 0");
        CharstringPress press = CffRun.of(CffFont.of("-107 callsubr 2 hlineto endchar").local("1 hlineto return"));
        press.draw(0, 9);
        Kit.due("return", Kit.outline(press), "L 1 0 L 3 0 Z");
    }

    private static void arithmetic(Walk walk) {
        walk.says("12 and: 3 and, 4 or, 5 not, 9 abs, 10 add, 11 sub, 12 div, 14 neg, 15 eq, 18 drop, 20 put, 21 get "
                + "(9: no such place), 22 ifelse, 24 mul, 26 sqrt, 27 dup, 28 exch, 29 index, 30 roll.");
        String[] programs = {"1 1 #0c03", "0 1 #0c04", "0 #0c05", "-4 #0c09", "2 3 #0c0a", "2 3 #0c0b", "6 3 #0c0c", "4 #0c0e",
            "4 4 #0c0f", "4 5 #0c12", "8 3 #0c14 3 #0c15", "1 2 3 4 #0c16", "2 3 #0c18", "9 #0c1a", "7 #0c1b", "1 2 #0c1c",
            "8 9 1 #0c1d", "1 2 3 3 1 #0c1e"};
        String[] due = {"1", "1", "1", "4", "5", "-1", "2", "-4", "1", "4", "8", "1", "6", "3", "7 7", "2 1", "8 9 8", "3 1 2"};
        for (int i = 0; i < programs.length; i++) {
            reckoned(programs[i], due[i]);
        }
        String known = " 3 4 5 9 10 11 12 14 15 18 20 21 22 24 26 27 28 29 30 34 35 36 37 ";
        for (int b = 0; b <= 255; b++) {
            if (!known.contains(" " + b + " ")) {
                fault(String.format("1 1 1 1 #0c%02x", b), 1);
            }
        }
        fault("32 get", 9);
        walk.says("(b the top, a below it.)");
        reckoned("7 2 sub", "5");
        reckoned("7 2 div", "3+32768");
        reckoned("7 2 put 2 get", "7");
        walk.says("What is true is 1, all but 0 is.");
        String[] truths = {"0 0", "0 5", "-5 0", "5 -5", "0 #ff00000001", "#ff00000001 #ffffffffff"};
        String[] and = {"0", "0", "0", "1", "0", "1"};
        String[] or = {"0", "1", "1", "1", "1", "1"};
        for (int i = 0; i < truths.length; i++) {
            reckoned(truths[i] + " and", and[i]);
            reckoned(truths[i] + " or", or[i]);
        }
        reckoned("#ff00000001 not", "0");
        reckoned("0 not", "1");
        reckoned("3 #ff00030001 eq", "0");
        reckoned("3 #ff00030000 eq", "1");
    }

    private static void sums(Walk walk) {
        walk.says("div: a * 65536 by b, mul: a * b by 65536, both cut towards 0; sqrt: of 65536 * a, downwards; results of 9 to "
                + "14, 24 are the lowest 32 bits with sign.");
        reckoned("1 3 div", "0+21845");
        reckoned("-1 3 div", "-1+43691");
        reckoned("1 -3 div", "-1+43691");
        reckoned("#ff00000003 0.5 mul", "0+1");
        reckoned("#fffffffffd 0.5 mul", "-1+65535");
        reckoned("2 sqrt", "1+27145");
        reckoned("0 sqrt", "0");
        reckoned("#ff00000001 sqrt", "0+256");
        reckoned("#ff7fffffff sqrt", "181+1267");
        reckoned("32767 1 add", "-32768");
        reckoned("-32768 1 sub", "32767");
        reckoned("-32768 neg", "-32768");
        reckoned("-32768 abs", "-32768");
        reckoned("300 300 mul", "24464");
        reckoned("32767 0.5 div", "-2");
    }

    private static void places(Walk walk) {
        walk.says("put: a at place b (0 to 31; a whole one, cut towards less; 0 at first), get.");
        reckoned("5 0 put 6 31 put 31 get 0 get 17 get", "6 5 0");
        reckoned("5 31.75 put 31 get 31.5 get", "5 5");
        fault("5 32 put", 9);
        fault("5 -0.25 put", 9);
        fault("32 get", 9);
        fault("-0.25 get", 9);
        CharstringPress press = CffRun.of(CffFont.of("5 0 put 0 get hmoveto endchar", "0 get hmoveto endchar"));
        press.draw(0, 9);
        Kit.due("put", Kit.outline(press), "M 5 0");
        press.draw(1, 9);
        Kit.due("0 at first, of each run", Kit.outline(press), "M 0 0");
        walk.says("ifelse (s1 s2 a b): s1, if a is not above b, else s2.");
        reckoned("8 9 1 2 ifelse", "8");
        reckoned("8 9 2 2 ifelse", "8");
        reckoned("8 9 3 2 ifelse", "9");
        reckoned("8 9 -3 -4 ifelse", "9");
        walk.says("index: b goes; what is b-th from the top then (cut likewise; below 0: 0; 9 without it);");
        reckoned("7 8 9 0 index", "7 8 9 9");
        reckoned("7 8 9 2 index", "7 8 9 7");
        reckoned("7 8 9 1.75 index", "7 8 9 8");
        reckoned("7 8 9 -5 index", "7 8 9 9");
        reckoned("7 8 9 -0.25 index", "7 8 9 9");
        fault("7 8 9 3 index", 9);
        fault("0 index", 9);
        fault("-1 index", 9);
    }

    private static void roll(Walk walk) {
        walk.says("roll (n j, both go, cut likewise): the n uppermost ones go up j places (from the top round; below 0: down): "
                + "2 if there are fewer, 9 if n is below 0.");
        reckoned("1 2 3 4 3 1 roll", "1 4 2 3");
        reckoned("1 2 3 4 4 1 roll", "4 1 2 3");
        reckoned("1 2 3 4 4 -1 roll", "2 3 4 1");
        reckoned("1 2 3 4 3 -1 roll", "1 3 4 2");
        reckoned("1 2 3 4 4 6 roll", "3 4 1 2");
        reckoned("1 2 3 4 4 -7 roll", "4 1 2 3");
        reckoned("1 2 3 4 0 5 roll", "1 2 3 4");
        reckoned("1 2 3 4 1 5 roll", "1 2 3 4");
        reckoned("1 2 3 4 3.75 1.5 roll", "1 4 2 3");
        reckoned("1 2 3 4 3 -0.25 roll", "1 3 4 2");
        fault("1 2 3 4 5 1 roll", 2);
        fault("1 roll", 2);
        fault("1 2 3 4 -1 1 roll", 9);
        fault("1 2 3 4 -0.25 1 roll", 9);
        walk.says("An end in a subroutine ends all.");
        CharstringPress press = CffRun.of(CffFont.of("-107 callsubr 9 hlineto").local("-106 callsubr 8 hlineto return")
                .local("7 hlineto endchar"));
        Kit.due("it ends", Kit.came(press, press.draw(0, 9)), "fault 0 parts 2 steps 4 hints 0 bytes 3 width 0");
        Kit.due("all", Kit.outline(press), "L 7 0 Z");
    }
}
