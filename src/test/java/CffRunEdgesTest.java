/** The edges of term IV, of what both families share and of CFF: each sentence that names one, by itself. */
public final class CffRunEdgesTest {
    private static final String FULL = "1 ".repeat(48);

    /** A local of a hundred steps. */
    private static final String HUNDRED = "1 " + "neg ".repeat(98) + "drop return";

    private static final int NO_LOCAL = -1;

    private CffRunEdgesTest() {
    }

    public static void main(String[] args) {
        pointAtFirst();
        stepsMost();
        stepsAheadOfAll();
        partsAboveTheLimit();
        noOperator();
        wrongCounts();
        pileIsFull();
        noSubroutine();
        tenOthers();
        bytesEnd();
        byZeroAndNoPlace();
        theLeast();
        numbers();
        numbersCut();
        clearsThePile();
        widthsFirst();
        widthsCounts();
        stems();
        masks();
        masksBytes();
        moves();
        ends();
        aheadOfAnyMove();
        linesLeast();
        curvesLeast();
        oddOnes();
        fifths();
        flexCounts();
        flexBack();
        subroutineNumbers();
        truth();
        division();
        multiplication();
        roots();
        lowestBits();
        places();
        ifelse();
        index();
        roll();
        endInASubroutine();
        Kit.close("CffRunEdgesTest");
    }

    private static void came(String program, String want) {
        Kit.due(program, CffRun.came(program), want);
    }

    private static void fault(String program, int want) {
        Kit.due(program, CffRun.fault(program), want);
    }

    private static void outline(String program, String want) {
        Kit.due(program, CffRun.outline(program), want);
    }

    private static void pile(String program, String want) {
        Kit.due(program, CffRun.pile(program), want);
    }

    private static void pointAtFirst() {
        Kit.sentence("The POINT is (0, 0) at first; dx, dy are from it on.");
        outline("0 hmoveto endchar", "M 0 0");
        outline("1 2 rmoveto 0 hmoveto 3 vmoveto endchar", "M 1 2 M 1 2 M 1 5");
        CharstringPress press = CffRun.of(CffFont.of("7 8 rmoveto 9 hlineto endchar", "1 2 rmoveto endchar"));
        press.draw(0, 9);
        press.draw(1, 9);
        Kit.due("at first again, of another run", Kit.outline(press), "M 1 2");
        outline("-32768 -32768 rmoveto -32768 -32768 rmoveto endchar", "M -32768 -32768 M -65536 -65536");
        outline("32767 hlineto 32767 hlineto 32767 vlineto endchar", "L 32767 0 L 65534 0 L 65534 32767 Z");
    }

    /** A press whose letter takes 3000 steps, has an empty PILE, and then this. */
    private static CharstringPress behindSteps(String program) {
        String steps = "-107 callsubr ".repeat(29) + "0 " + "neg ".repeat(70) + "drop ";
        return CffRun.of(CffFont.of(steps + program).widths(300, 600).local(HUNDRED));
    }

    private static void stepsMost() {
        Kit.sentence("STEPS are operators done; the 3001st: 8, at its first byte");
        int bytes = 29 * 2 + 1 + 70 * 2 + 2;
        String came = " parts 0 steps 3000 hints 0 bytes ";
        CharstringPress press = behindSteps("");
        Kit.due("3000 and no more", Kit.came(press, press.draw(0, 9)), "fault 7" + came + bytes + " width 0");
        press = behindSteps("1 2 #1c0001 #ff00000001");
        Kit.due("numbers are no steps", Kit.came(press, press.draw(0, 9)), "fault 7" + came + (bytes + 10) + " width 0");
        press = behindSteps("endchar");
        Kit.due("the 3001st", Kit.came(press, press.draw(0, 9)), "fault 8" + came + (bytes + 1) + " width 0");
        press = behindSteps("1 1 1 add add endchar");
        Kit.due("at its first byte", Kit.came(press, press.draw(0, 9)), "fault 8" + came + (bytes + 4) + " width 0");
        String less = "-107 callsubr ".repeat(29) + "0 " + "neg ".repeat(69) + "drop ";
        press = CffRun.of(CffFont.of(less + "endchar").widths(300, 600).local(HUNDRED));
        Kit.due("the 3000th", Kit.came(press, press.draw(0, 9)), "fault 0" + came + (bytes - 1) + " width 300");
    }

    private static void stepsAheadOfAll() {
        Kit.sentence("the 3001st: 8, at its first byte, ahead of all others of it.");
        String[] others = {"#02", "return", "rlineto", FULL + "dup", "5 callsubr", "hintmask", "#0c", "1 0 div",
            "1 hlineto", "0 callothersubr", "endchar", "1 hmoveto", "-107 callsubr"};
        for (String program : others) {
            CharstringPress press = behindSteps(program);
            Kit.due("the 3001st: " + program, press.draw(0, 0), 8);
            Kit.due("steps", press.drawn(1), 3000);
            Kit.due("no width", press.width(), 0);
        }
        Kit.due("a number is no operator: 3", behindSteps(FULL + "1 dup").draw(0, 9), 3);
        Kit.due("a number is no operator: 7", behindSteps("#1c00").draw(0, 9), 7);
        String less = "-107 callsubr ".repeat(29) + "0 " + "neg ".repeat(60) + "drop ";
        CharstringPress press = CffRun.of(CffFont.of(less + "-106 callsubr", less + "1 neg drop -106 callsubr")
                .local(HUNDRED).local("-106 callsubr"));
        Kit.due("within ten others, the 3001st", press.draw(1, 9), 8);
        Kit.due("within ten others, the 3001st", press.draw(0, 9), 8);
        press = CffRun.of(CffFont.of("-106 callsubr").local(HUNDRED).local("-106 callsubr"));
        Kit.due("within ten others, far ahead of it", press.draw(0, 9), 5);
    }

    private static void partsAboveTheLimit() {
        Kit.sentence("PARTS above the LIMIT: 6 (it is not there).");
        String[] drawing = {"1 1 rmoveto", "1 hmoveto", "1 vmoveto", "1 1 rlineto", "1 hlineto", "1 vlineto",
            "1 1 1 1 1 1 rrcurveto", "1 1 1 1 vvcurveto", "1 1 1 1 hhcurveto", "1 1 1 1 hvcurveto", "1 1 1 1 vhcurveto"};
        for (String program : drawing) {
            Kit.due("LIMIT 0: " + program, CffRun.outline(program + " 0 1 hstem endchar", 0), "6: ");
            Kit.due("LIMIT 2: " + program, CffRun.outline("1 hmoveto 2 hlineto " + program, 2), "6: M 1 0 L 3 0");
        }
        String[] two = {"1 1 1 1 1 1 1 1 1 1 1 1 rrcurveto", "1 1 1 1 1 1 1 1 1 1 1 1 1 flex", "1 1 1 1 1 1 1 1 1 hflex1",
            "1 1 1 1 1 1 1 1 1 1 1 flex1", "1 1 1 1 1 1 1 1 rcurveline", "1 1 1 1 1 1 1 hflex",
            "1 1 1 1 1 1 1 1 hvcurveto", "1 1 1 1 1 1 1 1 vvcurveto", "1 1 1 1 rlineto", "1 1 hlineto",
            "1 1 1 1 1 1 1 1 rlinecurve"};
        for (String program : two) {
            for (int limit = 0; limit <= 2; limit++) {
                CharstringPress press = CffRun.of(CffFont.of(program));
                Kit.due("LIMIT " + limit + ": " + program, press.draw(0, limit), limit < 2 ? 6 : 7);
                Kit.due("what is there", press.drawn(0), limit);
                Kit.due("steps", press.drawn(1), limit < 2 ? 0 : 1);
            }
        }
        Kit.due("a CLOSE at the end", CffRun.outline("1 hmoveto 1 hlineto endchar", 2), "6: M 1 0 L 2 0");
        Kit.due("a CLOSE ahead of a MOVE", CffRun.outline("1 hmoveto 1 hlineto 1 hmoveto", 2), "6: M 1 0 L 2 0");
        Kit.due("a MOVE behind a CLOSE", CffRun.outline("1 hmoveto 1 hlineto 1 hmoveto", 3), "6: M 1 0 L 2 0 Z");
        Kit.due("an end without a CLOSE", CffRun.outline("1 hmoveto endchar", 1), "M 1 0");
        Kit.due("no parts", CffRun.outline("1 2 hstem endchar", 0), "");
        String parts = (FULL + "hlineto ").repeat(8) + "1 ".repeat(15) + "hlineto ";
        Kit.due("399 and a CLOSE", CffRun.fault(parts + "endchar", 400), 0);
        Kit.due("400 and a CLOSE", CffRun.fault(parts + "1 hlineto endchar", 400), 6);
    }

    private static void noOperator() {
        Kit.sentence("1 an operator that is none (return in a LETTER itself, too)");
        boolean[] plain = new boolean[32];
        int[] known = {1, 3, 4, 5, 6, 7, 8, 10, 11, 12, 14, 18, 19, 20, 21, 22, 23, 24, 25, 26, 27, 28, 29, 30, 31};
        for (int b : known) {
            plain[b] = true;
        }
        for (int b = 0; b < 32; b++) {
            if (!plain[b]) {
                came(String.format("#%02x", b), "fault 1 parts 0 steps 0 hints 0 bytes 1 width 0");
                came("1 2 " + String.format("#%02x", b) + " endchar", "fault 1 parts 0 steps 0 hints 0 bytes 3 width 0");
            }
        }
        boolean[] escaped = new boolean[256];
        int[] knownEscaped = {3, 4, 5, 9, 10, 11, 12, 14, 15, 18, 20, 21, 22, 24, 26, 27, 28, 29, 30, 34, 35, 36, 37};
        for (int b : knownEscaped) {
            escaped[b] = true;
        }
        for (int b = 0; b < 256; b++) {
            int fault = CffRun.fault(String.format("#0c%02x", b));
            Kit.due("12 and " + b + " on an empty PILE", fault, escaped[b] ? 2 : 1);
        }
        came("return", "fault 1 parts 0 steps 0 hints 0 bytes 1 width 0");
        came("1 2 return endchar", "fault 1 parts 0 steps 0 hints 0 bytes 3 width 0");
        CharstringPress press = CffRun.of(CffFont.of("-107 callsubr return").local("return"));
        Kit.due("return behind a subroutine's", Kit.came(press, press.draw(0, 9)),
                "fault 1 parts 0 steps 2 hints 0 bytes 3 width 0");
    }

    private static void wrongCounts() {
        Kit.sentence("2 too few NUMBERS on the PILE, or not as many as told");
        String[] none = {"hstem", "vstem", "hstemhm", "vstemhm", "rmoveto", "hmoveto", "vmoveto", "rlineto", "hlineto",
            "vlineto", "rrcurveto", "rcurveline", "rlinecurve", "vvcurveto", "hhcurveto", "hvcurveto", "vhcurveto",
            "flex", "hflex", "hflex1", "flex1", "callsubr", "callgsubr"};
        for (String operator : none) {
            fault(operator, 2);
            Kit.due(operator + ": nothing is done", CffRun.outline("1 hmoveto " + operator), "2: M 1 0");
        }
        came("1 2 3 rlineto", "fault 2 parts 0 steps 0 hints 0 bytes 4 width 0");
        came("1 2 3 4 5 6 7 rrcurveto", "fault 2 parts 0 steps 0 hints 0 bytes 8 width 0");
    }

    private static void pileIsFull() {
        Kit.sentence("3 the PILE has 48 (Type 1: 24) and one comes");
        String[] numbers = {"#20", "#f6", "#f700", "#fe00", "#1c0000", "#ff00000000"};
        for (String number : numbers) {
            fault("1 ".repeat(47) + number + " hlineto endchar", 0);
            fault(FULL + number + " hlineto endchar", 3);
        }
        fault("1 ".repeat(47) + "dup hlineto endchar", 0);
        fault(FULL + "dup hlineto endchar", 3);
        String[] goAndCome = {"neg", "not", "abs", "get", "sqrt", "index", "exch", "add", "eq"};
        for (String operator : goAndCome) {
            fault(FULL + operator + " hlineto endchar", 0);
        }
        CharstringPress press = CffRun.of(CffFont.of(FULL + "drop -107 callsubr hlineto endchar",
                "1 ".repeat(47) + "-107 callsubr", "1 ".repeat(46) + "-107 callsubr hlineto endchar").local("1 1 return"));
        Kit.due("in a subroutine", press.draw(0, 400), 3);
        Kit.due("the top goes, two come", press.draw(1, 400), 3);
        Kit.due("the top goes, two come: 48", press.draw(2, 400), 0);
    }

    private static void noSubroutine() {
        Kit.sentence("4 a subroutine that there is not");
        CharstringPress press = CffRun.of(CffFont.of("-108 callsubr", "-107 callsubr endchar", "-106 callsubr endchar",
                "-105 callsubr", "-108 callgsubr", "-107 callgsubr endchar", "-106 callgsubr", "32767 callsubr",
                "-32768 callgsubr").local("return").local("return").global("return"));
        int[] due = {4, 0, 0, 4, 4, 0, 4, 4, 4};
        for (int k = 0; k < due.length; k++) {
            Kit.due(Kit.code(press, 0, k), press.draw(k, 9), due[k]);
        }
        press.draw(0, 9);
        Kit.due("behind the call", Kit.came(press, 4), "fault 4 parts 0 steps 0 hints 0 bytes 3 width 0");
        fault("-107 callsubr", 4);
        fault("-107 callgsubr", 4);
    }

    private static void tenOthers() {
        Kit.sentence("5 one within 10 others");
        CffFont chain = CffFont.of("-107 callsubr endchar", "-106 callsubr endchar", "-105 callsubr endchar");
        for (int i = 0; i < 10; i++) {
            chain.local((i - 106) + " callsubr return");
        }
        CharstringPress press = CffRun.of(chain.local("return"));
        Kit.due("one within 10 others", Kit.came(press, press.draw(0, 9)),
                "fault 5 parts 0 steps 10 hints 0 bytes 2 width 0");
        Kit.due("one within 9 others", press.draw(1, 9), 0);
        Kit.due("one within 8 others", press.draw(2, 9), 0);
        press = CffRun.of(CffFont.of("-107 callsubr endchar").local("-107 callgsubr return").global("-107 callsubr return"));
        Kit.due("locals and globals alike", Kit.came(press, press.draw(0, 9)),
                "fault 5 parts 0 steps 10 hints 0 bytes 2 width 0");
        press = CffRun.of(CffFont.of("-107 callsubr ".repeat(30) + "endchar").local("return"));
        Kit.due("one behind the other", press.draw(0, 9), 0);
    }

    private static void bytesEnd() {
        Kit.sentence("7 the bytes end (of a LETTER without its end, of a subroutine without return), "
                + "or a NUMBER's, a mask's do");
        came("", "fault 7 parts 0 steps 0 hints 0 bytes 0 width 0");
        came("1", "fault 7 parts 0 steps 0 hints 0 bytes 1 width 0");
        came("1 hmoveto", "fault 7 parts 1 steps 1 hints 0 bytes 2 width 300");
        came("#0c", "fault 7 parts 0 steps 0 hints 0 bytes 1 width 0");
        CharstringPress press = CffRun.of(CffFont.of("-107 callsubr endchar", "-106 callsubr endchar",
                "-105 callsubr endchar").local("1 1").local("").local("1 hlineto").widths(300, 600));
        Kit.due("a subroutine of numbers", Kit.came(press, press.draw(0, 9)),
                "fault 7 parts 0 steps 1 hints 0 bytes 2 width 0");
        Kit.due("a subroutine of no bytes", Kit.came(press, press.draw(1, 9)),
                "fault 7 parts 0 steps 1 hints 0 bytes 0 width 0");
        Kit.due("a subroutine without return", Kit.came(press, press.draw(2, 9)),
                "fault 7 parts 1 steps 2 hints 0 bytes 2 width 0");
    }

    private static void byZeroAndNoPlace() {
        Kit.sentence("9 by 0, a root of less than 0, a place that there is none.");
        String[] programs = {"0 0 div", "1 0 div", "-1 0 div", "-1 sqrt", "#ffffffffff sqrt", "#ff80000000 sqrt",
            "1 32 put", "1 -1 put", "32 get", "-1 get", "0 index", "5 1 index", "1 -1 0 roll"};
        for (String program : programs) {
            fault(program + " endchar", 9);
        }
        came("5 5 1 0 div", "fault 9 parts 0 steps 0 hints 0 bytes 6 width 0");
        fault("0 1 div hlineto endchar", 0);
        fault("1 #ff00000001 div hlineto endchar", 0);
        fault("0 sqrt hlineto endchar", 0);
    }

    private static void theLeast() {
        Kit.sentence("What can't be, the first (of one operator the least)");
        Kit.due("2 ahead of 6", CffRun.fault("1 2 3 rlineto", 0), 2);
        Kit.due("2 ahead of 6", CffRun.fault("1 2 3 4 rmoveto", 0), 2);
        Kit.due("2 ahead of 6: a MOVE that would close", CffRun.fault("1 hlineto 1 2 hmoveto", 1), 6);
        Kit.due("2 ahead of 6: a MOVE that would close", CffRun.fault("1 hlineto 1 2 3 hmoveto", 1), 2);
        Kit.due("2 ahead of 6: an end that would close", CffRun.fault("1 hlineto 1 2 endchar", 1), 2);
        fault("1 2 hstem 1 hintmask", 2);
        fault("0 div", 2);
        fault("sqrt", 2);
        fault("-1 put", 2);
        fault("index", 2);
        fault("-1 roll", 2);
        fault("callsubr", 2);
        CharstringPress press = CffRun.of(CffFont.of("-107 callsubr").local("-106 callsubr").local("-105 callsubr")
                .local("-104 callsubr").local("-103 callsubr").local("-102 callsubr").local("-101 callsubr")
                .local("-100 callsubr").local("-99 callsubr").local("-98 callsubr").local("99 callsubr"));
        Kit.due("4 ahead of 5", Kit.came(press, press.draw(0, 9)), "fault 4 parts 0 steps 10 hints 0 bytes 2 width 0");
        Kit.due("the first of two operators", CffRun.fault("1 0 div #02"), 9);
        Kit.due("the first of two operators", CffRun.fault("#02 1 0 div"), 1);
        Kit.due("a number ahead of an operator", CffRun.fault(FULL + "1 #02"), 3);
    }

    private static void numbers() {
        Kit.sentence("NUMBERS among the bytes: 28 (CFF alone), 32 to 254 as in II; 255 and four bytes: CFF: FIXED as they are");
        String[] told = {"#1c7fff", "#1c8000", "#1cffff", "#1c00ff", "#20", "#8a", "#8b", "#8c", "#f6", "#f700", "#f7ff",
            "#fa00", "#faff", "#fb00", "#fbff", "#fe00", "#feff", "#ff00000000", "#ff00000001", "#ff00010000",
            "#ff7fffffff", "#ff80000000", "#ffffffffff", "#ffffff0000"};
        String[] due = {"32767", "-32768", "-1", "255", "-107", "-1", "0", "1", "107", "108", "363", "876", "1131", "-108",
            "-363", "-876", "-1131", "0", "0+1", "1", "32767+65535", "-32768", "-1+65535", "-1"};
        for (int i = 0; i < told.length; i++) {
            pile(told[i], due[i]);
        }
    }

    private static void numbersCut() {
        Kit.sentence("7 the bytes end, or a NUMBER's do");
        String[] cut = {"#1c", "#1c00", "#f7", "#fa", "#fb", "#fe", "#ff", "#ff00", "#ff0000", "#ff000000"};
        for (String number : cut) {
            came("1 hmoveto " + number, "fault 7 parts 1 steps 1 hints 0 bytes " + (2 + number.length() / 2) + " width 300");
            // It does not come to the PILE: 7 where that is full, too.
            fault(FULL + number, 7);
        }
    }

    private static void clearsThePile() {
        Kit.sentence("An operator takes all of the PILE, and clears it, but subroutines, return and arithmetic.");
        String[] clearing = {"1 2 hstem", "1 2 vstem", "1 2 hstemhm", "1 2 vstemhm", "1 2 rmoveto", "1 hmoveto", "1 vmoveto",
            "1 2 rlineto", "1 hlineto", "1 vlineto", "1 2 3 4 5 6 rrcurveto", "1 2 3 4 5 6 7 8 rcurveline",
            "1 2 3 4 5 6 7 8 rlinecurve", "1 2 3 4 vvcurveto", "1 2 3 4 hhcurveto", "1 2 3 4 hvcurveto",
            "1 2 3 4 vhcurveto", "1 2 3 4 5 6 7 8 9 1 2 3 4 flex", "1 2 3 4 5 6 7 hflex", "1 2 3 4 5 6 7 8 9 hflex1",
            "1 2 3 4 5 6 7 8 9 1 2 flex1", "hintmask", "cntrmask"};
        for (String program : clearing) {
            fault(program + " drop", 2);
        }
        pile("5 6 1 2 add", "5 6 3");
        CharstringPress press = CffRun.of(CffFont.of("5 6 -107 callsubr 8 -107 callgsubr hlineto endchar").local("7 return")
                .global("9 return"));
        press.draw(0, 9);
        Kit.due("subroutines leave it", Kit.outline(press), "L 5 0 L 5 6 L 12 6 L 12 14 L 21 14 Z");
    }

    private static void widthsFirst() {
        Kit.sentence("The first of hstem 1, vstem 3, hstemhm 18, vstemhm 23, hintmask 19, cntrmask 20, rmoveto 21, "
                + "hmoveto 22, vmoveto 4, endchar 14 may have one NUMBER more, the lowest");
        String[] operators = {"5 6 hstem", "5 6 vstem", "5 6 hstemhm", "5 6 vstemhm", "5 6 hintmask #00",
            "5 6 cntrmask #00", "hintmask", "cntrmask", "5 6 rmoveto", "5 hmoveto", "5 vmoveto", "endchar"};
        for (String operator : operators) {
            Kit.due("without: " + operator, CffRun.width(operator), "300");
            Kit.due("with: " + operator, CffRun.width("-7 " + operator), "593");
            Kit.due("with a broken one: " + operator, CffRun.width("0.5 " + operator), "600+32768");
            Kit.due("with 0: " + operator, CffRun.width("0 " + operator), "600");
            String second = operator.equals("endchar") ? "endchar" : operator + " endchar";
            fault("1 2 hstem 9 " + second, 2);
            Kit.due("at the second none: " + operator, CffRun.width("1 2 hstem 9 " + operator), "300");
            fault("9 1 2 hstem 9 " + second, 2);
            Kit.due("at the second none: " + operator, CffRun.width("9 1 2 hstem 9 " + operator), "609");
        }
        Kit.due("behind lines", CffRun.width("1 hlineto 2 vlineto 9 1 2 hstem"), "609");
        Kit.due("behind arithmetic", CffRun.width("4 5 add 1 2 rmoveto"), "609");
        CharstringPress press = CffRun.of(CffFont.of("9 1 2 -107 callsubr").widths(300, 600).local("rmoveto endchar"));
        press.draw(0, 9);
        Kit.due("in a subroutine", press.width(), 609 * 65536L);
    }

    private static void widthsCounts() {
        Kit.sentence("the WIDTH is that and NOMINAL (without: DEFAULT; a wrong count tells none).");
        String[] wrong = {"hstem", "1 hstem", "vstem", "1 vstem", "hstemhm", "1 hstemhm", "vstemhm", "1 vstemhm", "rmoveto",
            "1 rmoveto", "1 2 3 4 rmoveto", "hmoveto", "1 2 3 hmoveto", "vmoveto", "1 2 3 vmoveto", "1 2 endchar",
            "1 2 3 endchar"};
        for (String program : wrong) {
            fault(program, 2);
            Kit.due("no WIDTH: " + program, CffRun.width(program), "0");
        }
    }

    private static void stems() {
        Kit.sentence("Stems: pairs, one at least; each pair is a HINT.");
        String[] operators = {"hstem", "vstem", "hstemhm", "vstemhm"};
        for (String operator : operators) {
            for (int n = 0; n <= 48; n++) {
                CharstringPress press = CffRun.of(CffFont.of("1 ".repeat(n) + operator));
                boolean can = n >= 2;
                Kit.due(operator + " of " + n, press.draw(0, 0), can ? 7 : 2);
                Kit.due("hints", press.drawn(2), can ? n / 2 : 0);
                press = CffRun.of(CffFont.of("1 hmoveto " + "1 ".repeat(n) + operator));
                can = n >= 2 && n % 2 == 0;
                Kit.due(operator + " of " + n + " behind another", press.draw(0, 1), can ? 7 : 2);
                Kit.due("hints", press.drawn(2), can ? n / 2 : 0);
            }
        }
        came("1 2 hstem 1 2 3 4 vstem 1 2 hstem endchar", "fault 0 parts 0 steps 4 hints 4 bytes 12 width 300");
    }

    private static void masks() {
        Kit.sentence("Masks: pairs, perhaps none (HINTS too), then as many bytes as all HINTS take bits (eight a byte");
        String[] operators = {"hintmask", "cntrmask"};
        for (String operator : operators) {
            came(operator + " endchar", "fault 0 parts 0 steps 2 hints 0 bytes 2 width 300");
            for (int n = 0; n <= 48; n++) {
                int hints = n / 2;
                int bytes = (hints + 7) / 8;
                String program = "1 ".repeat(n) + operator + " " + mask(bytes) + " endchar";
                CharstringPress press = CffRun.of(CffFont.of(program).widths(300, 600));
                Kit.due(operator + " of " + n, Kit.came(press, press.draw(0, 0)), "fault 0 parts 0 steps 2 hints " + hints
                        + " bytes " + (n + 2 + bytes) + " width " + (n % 2 == 0 ? 300 : 601));
            }
        }
        came("1 2 hstem 1 2 3 4 hintmask #ff hintmask #02 cntrmask #02 endchar",
                "fault 0 parts 0 steps 5 hints 3 bytes 14 width 300");
    }

    /** So many bytes that would be no operators. */
    private static String mask(int bytes) {
        return bytes == 0 ? "" : "#" + "02".repeat(bytes);
    }

    private static void masksBytes() {
        Kit.sentence("(eight a byte; the HINTS count though these end).");
        int[] hints = {1, 7, 8, 9, 16, 17, 24};
        for (int n : hints) {
            int bytes = (n + 7) / 8;
            for (int there = 0; there <= bytes; there++) {
                String program = "1 ".repeat(2 * n) + "hintmask " + mask(there);
                came(program, "fault 7 parts 0 steps " + (there == bytes ? 1 : 0) + " hints " + n + " bytes "
                        + (2 * n + 1 + there) + " width 300");
            }
        }
        came("1 2 3 4 hstem 1 2 cntrmask", "fault 7 parts 0 steps 1 hints 3 bytes 8 width 300");
        CharstringPress press = CffRun.of(CffFont.of("1 2 hstem -107 callsubr #02 endchar").local("hintmask"));
        Kit.due("a mask's bytes are the subroutine's own", Kit.came(press, press.draw(0, 0)),
                "fault 7 parts 0 steps 2 hints 1 bytes 1 width 0");
    }

    private static void moves() {
        Kit.sentence("Moves: two, one (x), one (y): CLOSE if a LINE or CURVE came since the last MOVE, then MOVE.");
        outline("3 4 rmoveto 5 hmoveto 6 vmoveto endchar", "M 3 4 M 8 4 M 8 10");
        outline("1 hmoveto 2 hlineto 3 hmoveto 4 hmoveto endchar", "M 1 0 L 3 0 Z M 6 0 M 10 0");
        outline("1 2 3 4 hhcurveto 3 vmoveto endchar", "C 1 0 3 3 7 3 Z M 7 6");
        String[] lines = {"1 2 rlineto", "1 hlineto", "1 vlineto"};
        for (String line : lines) {
            Kit.due("a LINE came: " + line, CffRun.outline("0 hmoveto " + line + " 0 hmoveto").contains("Z M") ? 1 : 0, 1);
        }
        String[] curves = {"1 2 3 4 5 6 rrcurveto", "1 2 3 4 5 6 7 8 rcurveline", "1 2 3 4 5 6 7 8 rlinecurve",
            "1 2 3 4 vvcurveto", "1 2 3 4 hhcurveto", "1 2 3 4 hvcurveto", "1 2 3 4 vhcurveto",
            "1 2 3 4 5 6 7 8 9 1 2 3 4 flex", "1 2 3 4 5 6 7 hflex", "1 2 3 4 5 6 7 8 9 hflex1", "1 2 3 4 5 6 7 8 9 1 2 flex1"};
        for (String curve : curves) {
            Kit.due("a CURVE came: " + curve, CffRun.outline("0 hmoveto " + curve + " 0 hmoveto").contains("Z M") ? 1 : 0, 1);
        }
        CharstringPress press = CffRun.of(CffFont.of("1 hlineto", "1 hmoveto endchar"));
        press.draw(0, 9);
        press.draw(1, 9);
        Kit.due("a LINE of an earlier run", Kit.outline(press), "M 1 0");
    }

    private static void ends() {
        Kit.sentence("endchar: none; CLOSE likewise; it ends.");
        came("endchar", "fault 0 parts 0 steps 1 hints 0 bytes 1 width 300");
        came("1 hmoveto endchar", "fault 0 parts 1 steps 2 hints 0 bytes 3 width 300");
        came("1 hmoveto 1 hlineto endchar #02 #02", "fault 0 parts 3 steps 3 hints 0 bytes 5 width 300");
        came("1 hmoveto 1 endchar", "fault 2 parts 1 steps 1 hints 0 bytes 4 width 300");
    }

    private static void aheadOfAnyMove() {
        Kit.sentence("A line or curve ahead of any MOVE is let.");
        outline("1 2 rlineto endchar", "L 1 2 Z");
        outline("1 2 3 4 hvcurveto endchar", "C 1 0 3 3 3 7 Z");
        outline("1 2 rlineto 5 hmoveto endchar", "L 1 2 Z M 6 2");
    }

    private static void linesLeast() {
        Kit.sentence("rlineto 5: pairs, one at least. hlineto 6, vlineto 7: one at least, by turns along x and y (6: x first).");
        for (int n = 0; n <= 48; n++) {
            String numbers = "1 ".repeat(n);
            fault("0 hmoveto " + numbers + "rlineto endchar", n >= 2 && n % 2 == 0 ? 0 : 2);
            fault("0 hmoveto " + numbers + "hlineto endchar", n >= 1 ? 0 : 2);
            fault("0 hmoveto " + numbers + "vlineto endchar", n >= 1 ? 0 : 2);
        }
        outline("1 2 3 4 5 hlineto", "7: L 1 0 L 1 2 L 4 2 L 4 6 L 9 6");
        outline("1 2 3 4 5 vlineto", "7: L 0 1 L 2 1 L 2 4 L 6 4 L 6 9");
    }

    private static void curvesLeast() {
        Kit.sentence("rrcurveto 8: sixes, one at least: three pairs, each from the point ahead. rcurveline 24: sixes, then "
                + "a pair. rlinecurve 25: pairs, one at least, then a six.");
        for (int n = 0; n <= 48; n++) {
            String numbers = "0 hmoveto " + "1 ".repeat(n);
            fault(numbers + "rrcurveto endchar", n >= 6 && n % 6 == 0 ? 0 : 2);
            fault(numbers + "rcurveline endchar", n >= 8 && n % 6 == 2 ? 0 : 2);
            fault(numbers + "rlinecurve endchar", n >= 8 && n % 2 == 0 ? 0 : 2);
        }
    }

    private static void oddOnes() {
        Kit.sentence("vvcurveto 26: (dx1 if odd) then fours; hhcurveto 27: (dy1 if odd) then fours: "
                + "the first control dx1 (0 later)");
        for (int n = 0; n <= 48; n++) {
            String numbers = "0 hmoveto " + "1 ".repeat(n);
            fault(numbers + "vvcurveto endchar", n >= 4 && n % 4 <= 1 ? 0 : 2);
            fault(numbers + "hhcurveto endchar", n >= 4 && n % 4 <= 1 ? 0 : 2);
        }
        outline("9 1 2 3 4 1 2 3 4 vvcurveto", "7: C 9 1 11 4 11 8 C 11 9 13 12 13 16");
        outline("9 1 2 3 4 1 2 3 4 hhcurveto", "7: C 1 9 3 12 7 12 C 8 12 10 15 14 15");
    }

    private static void fifths() {
        Kit.sentence("fours by turns: the last four may have a fifth: what the end goes along the first of its two.");
        for (int n = 0; n <= 48; n++) {
            String numbers = "0 hmoveto " + "1 ".repeat(n);
            fault(numbers + "hvcurveto endchar", n >= 4 && n % 4 <= 1 ? 0 : 2);
            fault(numbers + "vhcurveto endchar", n >= 4 && n % 4 <= 1 ? 0 : 2);
        }
        outline("1 2 3 4 9 hvcurveto", "7: C 1 0 3 3 12 7");
        outline("1 2 3 4 9 vhcurveto", "7: C 0 1 2 4 6 13");
        outline("1 2 3 4 1 2 3 4 9 hvcurveto", "7: C 1 0 3 3 3 7 C 3 8 5 11 9 20");
        outline("1 2 3 4 1 2 3 4 9 vhcurveto", "7: C 0 1 2 4 6 4 C 7 4 9 7 18 11");
        outline("1 2 3 4 1 2 3 4 1 2 3 4 9 hvcurveto", "7: C 1 0 3 3 3 7 C 3 8 5 11 9 11 C 10 11 12 14 21 18");
    }

    private static void flexCounts() {
        Kit.sentence("flex 12 35: thirteen: two curves, the last NUMBER of no matter.");
        for (int n = 0; n <= 20; n++) {
            String numbers = "0 hmoveto " + "1 ".repeat(n);
            fault(numbers + "flex endchar", n == 13 ? 0 : 2);
            fault(numbers + "hflex endchar", n == 7 ? 0 : 2);
            fault(numbers + "hflex1 endchar", n == 9 ? 0 : 2);
            fault(numbers + "flex1 endchar", n == 11 ? 0 : 2);
        }
        String curves = "7: C 1 2 4 6 9 12 C 10 14 13 18 18 24";
        outline("1 2 3 4 5 6 1 2 3 4 5 6 0 flex", curves);
        outline("1 2 3 4 5 6 1 2 3 4 5 6 -32768 flex", curves);
    }

    private static void flexBack() {
        Kit.sentence("the end is along x from the fifth, if the pairs' sum has a greater size in x than in y, and at the y "
                + "it began at; else along y, at the x it began at.");
        outline("3 0 0 2 0 0 0 0 0 0 7 flex1", "7: C 3 0 3 2 3 2 C 3 2 3 2 10 0");
        outline("2 0 0 3 0 0 0 0 0 0 7 flex1", "7: C 2 0 2 3 2 3 C 2 3 2 3 0 10");
        outline("3 0 0 3 0 0 0 0 0 0 7 flex1", "7: C 3 0 3 3 3 3 C 3 3 3 3 0 10");
        outline("-3 0 0 2 0 0 0 0 0 0 7 flex1", "7: C -3 0 -3 2 -3 2 C -3 2 -3 2 4 0");
        outline("3 0 0 -3 0 0 0 0 0 0 7 flex1", "7: C 3 0 3 -3 3 -3 C 3 -3 3 -3 0 4");
        outline("-2 0 0 -3 0 0 0 0 0 0 7 flex1", "7: C -2 0 -2 -3 -2 -3 C -2 -3 -2 -3 0 4");
        outline("0 0 0 0 0 0 0 0 0 0 7 flex1", "7: C 0 0 0 0 0 0 C 0 0 0 0 0 7");
        outline("1 0 1 0 1 0 1 0 1 0 7 flex1", "7: C 1 0 2 0 3 0 C 4 0 5 0 12 0");
        outline("#ff00000001 0 0 0 0 0 0 0 0 0 7 flex1", "7: C 0+1 0 0+1 0 0+1 0 C 0+1 0 0+1 0 7+1 0");
        outline("5 6 rmoveto 30000 1 30000 1 0 0 0 0 0 0 7 flex1",
                "7: M 5 6 C 30005 7 60005 8 60005 8 C 60005 8 60005 8 60012 6");
        Kit.sentence("hflex1 12 36: the last goes to the y it began at.");
        outline("5 6 rmoveto 1 2 3 4 5 6 7 8 9 hflex1", "7: M 5 6 C 6 8 9 12 14 12 C 20 12 27 20 36 6");
        Kit.sentence("hflex 12 34: (dx1 0)(dx2 dy2)(dx3 0), (dx4 0)(dx5 -dy2)(dx6 0)");
        outline("5 6 rmoveto 1 2 -32768 4 5 6 7 hflex", "7: M 5 6 C 6 6 8 -32762 12 -32762 C 17 -32762 23 6 30 6");
    }

    private static void subroutineNumbers() {
        Kit.sentence("the top of the PILE (a whole one, cut towards less) and 107 (fewer than 1240 in their INDEX; 1131 "
                + "fewer than 33900; else 32768)");
        CharstringPress press = CffRun.of(CffFont.of("#ff" + fixed(-107 * 65536) + " callsubr", "#ff" + fixed(-107 * 65536 + 65535)
                + " callsubr", "#ff" + fixed(-107 * 65536 - 1) + " callsubr", "#ff" + fixed(-106 * 65536) + " callsubr",
                "#ff" + fixed(-105 * 65536) + " callsubr", "#ff" + fixed(-106 * 65536 - 1) + " callsubr")
                .local("1 hmoveto endchar").local("2 hmoveto endchar"));
        int[] due = {1, 1, NO_LOCAL, 2, NO_LOCAL, 1};
        for (int k = 0; k < due.length; k++) {
            int fault = press.draw(k, 9);
            Kit.due(Kit.code(press, 0, k), fault, due[k] == NO_LOCAL ? 4 : 0);
            Kit.due(Kit.code(press, 0, k), press.at(0, 0, 0), due[k] == NO_LOCAL ? 0 : due[k] * 65536L);
        }
        int[] many = {1, 107, 108, 1238, 1239, 1240, 1241, 1300};
        for (int n : many) {
            int bias = n < 1240 ? 107 : 1131;
            Kit.due(n + ": the first", global(n, -bias, 0), 0);
            Kit.due(n + ": below the first", global(n, -bias - 1, 0), 4);
            Kit.due(n + ": the last", global(n, n - 1 - bias, n - 1), 0);
            Kit.due(n + ": behind the last", global(n, n - bias, 0), 4);
        }
    }

    private static String fixed(int told) {
        return String.format("%08x", told);
    }

    /** What a letter comes to that calls by this number, where of n globals one is an end and the others are empty. */
    private static int global(int n, int number, int end) {
        CffParts parts = new CffParts();
        byte[] index = Kit.join(Kit.bytes(n >> 8, n, 1), new byte[n + 1], Kit.bytes(14));
        for (int k = 0; k <= n; k++) {
            index[3 + k] = (byte) (k <= end ? 1 : 2);
        }
        parts.globals = index;
        parts.letters = CffParts.one(Program.cff(number + " callgsubr"));
        CharstringPress press = new CharstringPress();
        Kit.due("read", Kit.read(press, 0, parts.build()), 0);
        Kit.due("globals", press.font(3), n);
        return press.draw(0, 0);
    }

    private static void truth() {
        Kit.sentence("What is true is 1, all but 0 is.");
        String[] numbers = {"0", "1", "-1", "#ff00000001", "#ff80000000", "0.5"};
        for (String a : numbers) {
            pile(a + " not", a.equals("0") ? "1" : "0");
            for (String b : numbers) {
                boolean first = !a.equals("0");
                boolean second = !b.equals("0");
                pile("9 " + a + " " + b + " and", "9 " + (first && second ? 1 : 0));
                pile("9 " + a + " " + b + " or", "9 " + (first || second ? 1 : 0));
                pile("9 " + a + " " + b + " eq", "9 " + (a.equals(b) ? 1 : 0));
            }
        }
    }

    private static void division() {
        Kit.sentence("div: a * 65536 by b, both cut towards 0; results of 9 to 14, 24 are the lowest 32 bits with sign.");
        pile("1 3 div", "0+21845");
        pile("-1 3 div", "-1+43691");
        pile("1 -3 div", "-1+43691");
        pile("-1 -3 div", "0+21845");
        pile("#ff00000001 2 div", "0");
        pile("#ffffffffff 2 div", "0");
        pile("32767 0.5 div", "-2");
        pile("16384 0.5 div", "-32768");
        pile("-32768 -1 div", "-32768");
        pile("-32768 0.5 div", "0");
        pile("-32768 #ffffffffff div", "0");
        pile("#ff7fffffff #ff00000001 div", "-1");
        pile("#ff80000000 #ff00000001 div", "0");
        pile("#ff00000001 #ff7fffffff div", "0");
        pile("#ff00000001 #ff00000003 div", "0+21845");
    }

    private static void multiplication() {
        Kit.sentence("mul: a * b by 65536, both cut towards 0");
        pile("3 -4 mul", "-12");
        pile("#ffffffffff #ff00000001 mul", "0");
        pile("#ffffffffff 0.5 mul", "0");
        pile("#ffffffffff 1.5 mul", "-1+65535");
        pile("#ff00000003 0.5 mul", "0+1");
        pile("#ff80000000 #ff80000000 mul", "0");
        pile("-32768 -1 mul", "-32768");
        pile("#ff7fffffff #ff7fffffff mul", "-1");
        pile("256 256 mul", "0");
        pile("182 182 mul", "-32412");
        pile("-32768 1.5 mul", "16384");
    }

    private static void roots() {
        Kit.sentence("sqrt: of 65536 * a, downwards");
        pile("0 sqrt", "0");
        pile("#ff00000001 sqrt", "0+256");
        pile("#ff00000002 sqrt", "0+362");
        pile("1 sqrt", "1");
        pile("#ff0000ffff sqrt", "0+65535");
        pile("4 sqrt", "2");
        pile("#ff0003ffff sqrt", "1+65535");
        pile("32761 sqrt", "181");
        pile("#ff7fffffff sqrt", "181+1267");
    }

    private static void lowestBits() {
        Kit.sentence("results of 9 to 14, 24 are the lowest 32 bits with sign.");
        pile("-32768 abs", "-32768");
        pile("#ff80000001 abs", "32767+65535");
        pile("-32768 neg", "-32768");
        pile("#ff7fffffff neg", "-32768+1");
        pile("#ff7fffffff #ff00000001 add", "-32768");
        pile("-32768 -32768 add", "0");
        pile("-32768 #ff00000001 sub", "32767+65535");
        pile("0 -32768 sub", "-32768");
        pile("32767 -32768 sub", "-1");
        pile("20000 20000 add", "-25536");
    }

    private static void places() {
        Kit.sentence("put: a at place b (0 to 31; a whole one, cut towards less; 0 at first), get.");
        for (int place = -1; place <= 32; place++) {
            boolean there = place >= 0 && place <= 31;
            pile("7 " + place + " put " + place + " get", there ? "7" : "fault 9");
            pile(place + " get", there ? "0" : "fault 9");
        }
        pile("7 31.99 put 31 get", "7");
        pile("7 31 put 31.99 get", "7");
        fault("7 #ffffffffff put", 9);
        fault("#ffffffffff get", 9);
        pile("7 0.99 put 0 get 1 get", "7 0");
        pile("7 5 put 8 5 put 5 get", "8");
        pile("-0.5 5 put 5 get", "-1+32768");
        fault("32767 get", 9);
        fault("1 -32768 put", 9);
        CharstringPress press = CffRun.of(CffFont.of("7 5 put -107 callsubr 5 get hmoveto endchar", "5 get hmoveto endchar")
                .local("8 5 put return"));
        press.draw(0, 9);
        Kit.due("a subroutine has the same places", press.at(0, 0, 0), 8 * 65536L);
        press.draw(1, 9);
        Kit.due("0 at first, of another run", press.at(0, 0, 0), 0);
    }

    private static void ifelse() {
        Kit.sentence("ifelse (s1 s2 a b): s1, if a is not above b, else s2.");
        pile("9 5 6 1 2 ifelse", "9 5");
        pile("9 5 6 2 2 ifelse", "9 5");
        pile("9 5 6 2 1 ifelse", "9 6");
        pile("5 6 #ff00000001 0 ifelse", "6");
        pile("5 6 -32768 #ff7fffffff ifelse", "5");
        pile("5 6 #ff7fffffff -32768 ifelse", "6");
        fault("5 6 1 ifelse", 2);
    }

    private static void index() {
        Kit.sentence("index: b goes; what is b-th from the top then (cut likewise; below 0: 0; 9 without it)");
        pile("5 6 7 0 index", "5 6 7 7");
        pile("5 6 7 1 index", "5 6 7 6");
        pile("5 6 7 2 index", "5 6 7 5");
        pile("5 6 7 3 index", "fault 9");
        pile("5 6 7 1.99 index", "5 6 7 6");
        pile("5 6 7 -1 index", "5 6 7 7");
        pile("5 6 7 #ffffffffff index", "5 6 7 7");
        pile("5 6 7 -32768 index", "5 6 7 7");
        pile("5 6 7 32767 index", "fault 9");
        pile("0 index", "fault 9");
        pile("-1 index", "fault 9");
        pile("index", "fault 2");
        pile("1 ".repeat(47) + "46 index", "1 ".repeat(47) + "1");
        pile("1 ".repeat(47) + "47 index", "fault 9");
    }

    private static void roll() {
        Kit.sentence("roll (n j, both go, cut likewise): the n uppermost ones go up j places (from the top round; below 0: "
                + "down): 2 if there are fewer, 9 if n is below 0.");
        pile("1 2 3 4 3 0 roll", "1 2 3 4");
        pile("1 2 3 4 3 1 roll", "1 4 2 3");
        pile("1 2 3 4 3 2 roll", "1 3 4 2");
        pile("1 2 3 4 3 3 roll", "1 2 3 4");
        pile("1 2 3 4 3 4 roll", "1 4 2 3");
        pile("1 2 3 4 3 -1 roll", "1 3 4 2");
        pile("1 2 3 4 3 -2 roll", "1 4 2 3");
        pile("1 2 3 4 3 -4 roll", "1 3 4 2");
        pile("1 2 3 4 4 1 roll", "4 1 2 3");
        pile("1 2 3 4 5 1 roll", "fault 2");
        pile("1 2 3 4 1 1 roll", "1 2 3 4");
        pile("1 2 3 4 0 1 roll", "1 2 3 4");
        pile("1 2 3 4 -1 1 roll", "fault 9");
        pile("1 2 3 4 #ffffffffff 1 roll", "fault 9");
        pile("1 2 3 4 3.99 1.99 roll", "1 4 2 3");
        pile("1 2 3 4 3 #ffffffffff roll", "1 3 4 2");
        pile("1 2 3 4 3 32767 roll", "1 4 2 3");
        pile("1 2 3 4 3 -32768 roll", "1 4 2 3");
        pile("1 2 3 4 32767 1 roll", "fault 2");
        pile("9 0 0 roll", "9");
        pile("1 0 roll", "fault 2");
        pile("0 roll", "fault 2");
        pile("roll", "fault 2");
        pile("1 ".repeat(45) + "2 46 1 roll", "2 " + "1 ".repeat(44) + "1");
    }

    private static void endInASubroutine() {
        Kit.sentence("An end in a subroutine ends all.");
        CharstringPress press = CffRun.of(CffFont.of("1 hmoveto -107 callsubr #02").widths(300, 600)
                .local("2 hlineto -107 callgsubr #02").global("endchar #02"));
        Kit.due("two deep", Kit.came(press, press.draw(0, 9)), "fault 0 parts 3 steps 5 hints 0 bytes 1 width 300");
        Kit.due("closed", Kit.outline(press), "M 1 0 L 3 0 Z");
    }
}
