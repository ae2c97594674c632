/** Promises 7 to 11 of Type 1: programs run to outlines. */
public final class TypeOneDrawTest {
    private static final String FLEX = "1 callsubr 10 20 rmoveto 2 callsubr 1 2 rmoveto 2 callsubr"
            + " 3 hmoveto 2 callsubr 4 vmoveto 2 callsubr 5 6 rmoveto 2 callsubr 7 8 rmoveto 2 callsubr"
            + " 9 1 rmoveto 2 callsubr";

    private TypeOneDrawTest() {
    }

    public static void main(String[] args) {
        ordinary();
        numbers();
        division();
        subroutines();
        flex();
        flexFaults();
        others();
        popFaults();
        counts();
        faults();
        limits();
        Kit.close("TypeOneDrawTest");
    }

    private static void outline(String program, String want) {
        Kit.due(program, TypeOneRun.outline(program + " endchar"), want);
    }

    private static void came(String program, String want) {
        Kit.due(program, TypeOneRun.came(program), want);
    }

    private static void ordinary() {
        outline("50 500 hsbw 1 2 rmoveto 3 4 rlineto closepath", "M 51 2 L 54 6 Z");
        outline("1 2 rmoveto 3 hmoveto 4 vmoveto", "M 1 2 M 4 2 M 4 6");
        outline("1 hlineto 2 vlineto", "L 1 0 L 1 2");
        outline("1 2 3 4 5 6 rrcurveto", "C 1 2 4 6 9 12");
        outline("1 2 3 4 vhcurveto", "C 0 1 2 4 6 4");
        outline("1 2 3 4 hvcurveto", "C 1 0 3 3 3 7");
        outline("closepath closepath", "Z Z");
        outline("1 hlineto 3 hmoveto", "L 1 0 M 4 0");
        outline("1 hlineto 8 9 setcurrentpoint 1 vlineto", "L 1 0 L 8 10");
        outline("5 6 7 8 sbw 1 hlineto", "L 6 6");
        came("1 2 3 4 sbw endchar", "fault 0 parts 0 steps 2 hints 0 bytes 7 width 3");
        came("50 500 hsbw endchar", "fault 0 parts 0 steps 2 hints 0 bytes 5 width 500");
        came("50 500 hsbw 1 7 hsbw endchar", "fault 0 parts 0 steps 3 hints 0 bytes 8 width 7");
        came("endchar", "fault 0 parts 0 steps 1 hints 0 bytes 1 width 0");
        came("1 2 hstem 1 2 vstem 1 2 3 4 5 6 hstem3 1 2 3 4 5 6 vstem3 dotsection endchar",
                "fault 0 parts 0 steps 6 hints 0 bytes 25 width 0");
        came("1 hlineto endchar 1 hlineto", "fault 0 parts 1 steps 2 hints 0 bytes 3 width 0");
    }

    private static void numbers() {
        outline("#20 hlineto #f6 vlineto", "L -107 0 L -107 107");
        outline("#f700 hlineto #faff vlineto", "L 108 0 L 108 1131");
        outline("#fb00 hlineto #feff vlineto", "L -108 0 L -108 -1131");
        outline("#ff7fffffff hlineto #ff80000000 vlineto", "L 2147483647 0 L 2147483647 -2147483648");
        came("#ff0000", "fault 7 parts 0 steps 0 hints 0 bytes 3 width 0");
        came("#1c0001", "fault 1 parts 0 steps 0 hints 0 bytes 1 width 0");
        String full = "1 ".repeat(24);
        came(full, "fault 7 parts 0 steps 0 hints 0 bytes 24 width 0");
        came(full + "1", "fault 3 parts 0 steps 0 hints 0 bytes 25 width 0");
        came(full + "#ff00000001", "fault 3 parts 0 steps 0 hints 0 bytes 29 width 0");
    }

    private static void division() {
        outline("7 2 div hlineto", "L 3+32768 0");
        outline("-7 2 div hlineto", "L -4+32768 0");
        outline("-1 3 div hlineto", "L -1+" + (65536 - 21845) + " 0");
        outline("#ff7fffffff 1 div hlineto", "L 2147483647 0");
        outline("100000 1 2 div div hlineto", "L 200000 0");
        outline("100000 1 1000 div div hlineto", "L 100824615+25206 0");
        came("1 0 div", "fault 9 parts 0 steps 0 hints 0 bytes 4 width 0");
        came("1 div", "fault 2 parts 0 steps 0 hints 0 bytes 3 width 0");
        came("#ff80000000 -1 div 1 #ff00010000 div div hlineto endchar",
                "fault 0 parts 1 steps 5 hints 0 bytes 20 width 0");
    }

    private static void subroutines() {
        outline("3 callsubr 1 hlineto", "L 1 0");
        outline("7 2 div callsubr 1 hlineto", "L 1 0");
        came("6 callsubr", "fault 0 parts 1 steps 3 hints 0 bytes 3 width 0");
        came("5 callsubr", "fault 7 parts 1 steps 2 hints 0 bytes 2 width 0");
        came("8 callsubr", "fault 7 parts 0 steps 1 hints 0 bytes 0 width 0");
        came("9 callsubr", "fault 4 parts 0 steps 0 hints 0 bytes 2 width 0");
        came("20 callsubr", "fault 4 parts 0 steps 0 hints 0 bytes 2 width 0");
        came("-1 callsubr", "fault 4 parts 0 steps 0 hints 0 bytes 2 width 0");
        came("-1 2 div callsubr", "fault 4 parts 0 steps 1 hints 0 bytes 5 width 0");
        came("#ff7fffffff callsubr", "fault 4 parts 0 steps 0 hints 0 bytes 6 width 0");
        came("7 callsubr", "fault 5 parts 0 steps 10 hints 0 bytes 2 width 0");
        came("10 callsubr", "fault 4 parts 0 steps 10 hints 0 bytes 2 width 0");
        came("callsubr", "fault 2 parts 0 steps 0 hints 0 bytes 1 width 0");
        came("return", "fault 1 parts 0 steps 0 hints 0 bytes 1 width 0");
    }

    private static void flex() {
        outline("100 100 rmoveto " + FLEX + " 50 139 141 0 callsubr 1 hlineto",
                "M 100 100 C 111 122 114 122 114 126 C 119 132 126 140 135 141 L 140 141");
        outline("50 500 hsbw " + FLEX + " 50 85 41 3 0 callothersubr pop pop setcurrentpoint 1 hmoveto",
                "C 61 22 64 22 64 26 C 69 32 76 40 85 41 M 86 41");
        outline(FLEX + " 1 callsubr 9 1 rmoveto 2 callsubr 1 callsubr " + FLEX.substring(11) + " 50 1 2 3 0 callothersubr",
                "C 55 64 58 64 58 68 C 63 74 70 82 79 83");
        outline("1 callsubr 1 hlineto 5 hmoveto 6 vmoveto 1 vlineto", "L 1 0 L 6 7");
        outline("1 callsubr " + "2 callsubr ".repeat(7) + "1 2 3 3 0 callothersubr 5 hmoveto", "C 0 0 0 0 0 0 C 0 0 0 0 0 0 M 5 0");
        came(FLEX + " 1 2 3 3 0 callothersubr pop pop pop", "fault 9 parts 2 steps 34 hints 0 bytes 48 width 0");
        outline("1 callsubr " + "2 callsubr ".repeat(7) + "1 2 3 3 0 callothersubr pop hlineto pop hlineto",
                "C 0 0 0 0 0 0 C 0 0 0 0 0 0 L 2 0 L 5 0");
    }

    private static void flexFaults() {
        came("0 2 callothersubr", "fault 9 parts 0 steps 0 hints 0 bytes 4 width 0");
        came("1 2 3 3 0 callothersubr", "fault 9 parts 0 steps 0 hints 0 bytes 7 width 0");
        String seven = "0 1 callothersubr " + "0 2 callothersubr ".repeat(7);
        came(seven + "0 2 callothersubr", "fault 9 parts 0 steps 8 hints 0 bytes 36 width 0");
        String six = "0 1 callothersubr " + "0 2 callothersubr ".repeat(6);
        came(six + "1 2 3 3 0 callothersubr", "fault 9 parts 0 steps 7 hints 0 bytes 35 width 0");
        came(seven + "1 2 3 3 0 callothersubr 0 2 callothersubr", "fault 9 parts 2 steps 9 hints 0 bytes 43 width 0");
        came(seven + "1 2 3 3 0 callothersubr 1 2 3 3 0 callothersubr", "fault 9 parts 2 steps 9 hints 0 bytes 46 width 0");
        came(seven + "1 2 2 0 callothersubr", "fault 9 parts 0 steps 8 hints 0 bytes 38 width 0");
        came("1 1 1 callothersubr", "fault 9 parts 0 steps 0 hints 0 bytes 5 width 0");
        came("0 1 callothersubr 5 1 2 callothersubr", "fault 9 parts 0 steps 1 hints 0 bytes 9 width 0");
        came("0 3 callothersubr", "fault 9 parts 0 steps 0 hints 0 bytes 4 width 0");
        came("1 1 2 3 callothersubr", "fault 9 parts 0 steps 0 hints 0 bytes 6 width 0");
    }

    private static void others() {
        outline("5 1 3 callothersubr pop hlineto", "L 3 0");
        outline("9 4 callsubr 1 hlineto", "L 1 0");
        outline("1 2 3 3 12 callothersubr pop pop pop 4 5 6 rrcurveto", "C 3 2 4 6 9 12");
        outline("8 1 2 2 99 callothersubr pop pop 3 hvcurveto", "C 8 0 10 1 10 4");
        outline("7 0 -1 callothersubr hlineto", "L 7 0");
        outline("9 2 div 1 5 callothersubr pop hlineto", "L 4+32768 0");
        outline("6 7 5 2 div 9 2 div callothersubr pop pop rlineto", "L 7 6");
        came("callothersubr", "fault 2 parts 0 steps 0 hints 0 bytes 2 width 0");
        came("5 callothersubr", "fault 2 parts 0 steps 0 hints 0 bytes 3 width 0");
        came("1 2 5 callothersubr", "fault 2 parts 0 steps 0 hints 0 bytes 5 width 0");
        came("1 1 callothersubr", "fault 2 parts 0 steps 0 hints 0 bytes 4 width 0");
        came("-1 5 callothersubr", "fault 9 parts 0 steps 0 hints 0 bytes 4 width 0");
        came("-1 2 div 5 callothersubr", "fault 9 parts 0 steps 1 hints 0 bytes 7 width 0");
        came("#ff7fffffff 5 callothersubr", "fault 2 parts 0 steps 0 hints 0 bytes 8 width 0");
        String full = "1 ".repeat(22);
        outline(full + "22 7 callothersubr pop hlineto", "L 1 0");
        outline(full + "22 7 callothersubr " + "pop ".repeat(22) + "22 8 callothersubr pop hlineto", "L 1 0");
    }

    private static void popFaults() {
        came("pop", "fault 9 parts 0 steps 0 hints 0 bytes 2 width 0");
        came("1 1 5 callothersubr pop pop", "fault 9 parts 0 steps 2 hints 0 bytes 9 width 0");
        came("1 1 5 callothersubr 0 6 callothersubr pop", "fault 9 parts 0 steps 2 hints 0 bytes 11 width 0");
        came("1 1 5 callothersubr " + "1 ".repeat(24) + "pop", "fault 3 parts 0 steps 1 hints 0 bytes 31 width 0");
        CharstringPress press = new CharstringPress();
        Kit.read(press, 1, TypeOneFont.of("1 1 5 callothersubr endchar", "pop endchar", "0 1 callothersubr endchar",
                "0 2 callothersubr endchar", "1 hmoveto endchar").build());
        press.draw(0, 9);
        Kit.due("nothing is put by of an earlier run", press.draw(1, 9), 9);
        press.draw(2, 9);
        Kit.due("no flex of an earlier run", press.draw(3, 9), 9);
        press.draw(2, 9);
        press.draw(4, 9);
        Kit.due("no flex of an earlier run", Kit.outline(press), "M 1 0");
    }

    private static void counts() {
        String[] names = {"closepath", "endchar", "dotsection", "hlineto", "vlineto", "hmoveto", "vmoveto", "hstem",
            "vstem", "rlineto", "hsbw", "rmoveto", "setcurrentpoint", "vhcurveto", "hvcurveto", "sbw", "rrcurveto",
            "hstem3", "vstem3"};
        int[] wanted = {0, 0, 0, 1, 1, 1, 1, 2, 2, 2, 2, 2, 2, 4, 4, 4, 6, 6, 6};
        for (int i = 0; i < names.length; i++) {
            for (int n = 0; n <= 12; n++) {
                CharstringPress press = TypeOneRun.of("1 ".repeat(n) + names[i]);
                int can = names[i].equals("endchar") ? 0 : 7;
                Kit.due(names[i] + " of " + n, press.draw(0, 9), n == wanted[i] ? can : 2);
                Kit.due("its steps", press.drawn(1), n == wanted[i] ? 1 : 0);
            }
        }
    }

    private static void faults() {
        int[] none = {0, 2, 15, 16, 17, 18, 19, 20, 23, 24, 25, 26, 27, 28, 29};
        for (int operator : none) {
            came("1 " + String.format("#%02x", operator), "fault 1 parts 0 steps 0 hints 0 bytes 2 width 0");
        }
        int[] escaped = {3, 4, 5, 6, 8, 9, 10, 11, 13, 14, 15, 18, 20, 27, 28, 30, 32, 34, 35, 255};
        for (int operator : escaped) {
            came("1 1 1 1 1 " + String.format("#0c%02x", operator), "fault 1 parts 0 steps 0 hints 0 bytes 7 width 0");
        }
        came("#0c", "fault 7 parts 0 steps 0 hints 0 bytes 1 width 0");
        came("", "fault 7 parts 0 steps 0 hints 0 bytes 0 width 0");
        came("1 7 hsbw 1 hmoveto 1", "fault 7 parts 1 steps 2 hints 0 bytes 6 width 7");
        TypeOneFont font = new TypeOneFont().words("/Subrs 1 array ").local(0, "dotsection ".repeat(100) + "return");
        font.begin().letter("a", "0 callsubr ".repeat(40)).words("end");
        CharstringPress press = new CharstringPress();
        Kit.read(press, 1, font.build());
        Kit.due("the 3001st step", Kit.came(press, press.draw(0, 9)), "fault 8 parts 0 steps 3000 hints 0 bytes 83 width 0");
    }

    private static void limits() {
        CharstringPress press = TypeOneRun.of("1 hmoveto 2 hlineto closepath " + FLEX + " 1 2 3 3 0 callothersubr endchar");
        for (int limit = 0; limit < 5; limit++) {
            Kit.due("limit " + limit, press.draw(0, limit), 6);
            Kit.due("parts", press.drawn(0), limit);
        }
        Kit.due("limit 5", press.draw(0, 5), 0);
        Kit.due("parts", Kit.outline(press), "M 1 0 L 3 0 Z C 14 22 17 22 17 26 C 22 32 29 40 38 41");
    }
}
