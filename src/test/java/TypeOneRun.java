/** A program of Type 1, run as letter 0 of a font with the usual locals. */
final class TypeOneRun {
    private TypeOneRun() {
    }

    /**
     * LOCALS: 0 to 2 the flex's, 3 a return, 4 the one that changes hints, 5 without return, 6 with an end,
     * 7 calls itself, 8 of no bytes, 9 not told, 10 to 19 one within the other; 20 there is not.
     */
    static TypeOneFont font() {
        TypeOneFont font = new TypeOneFont().words("/Subrs 20 array\n");
        font.local(0, "3 0 callothersubr pop pop setcurrentpoint return").local(1, "0 1 callothersubr return");
        font.local(2, "0 2 callothersubr return").local(3, "return").local(4, "1 3 callothersubr pop callsubr return");
        font.local(5, "7 hmoveto").local(6, "8 hmoveto endchar").local(7, "7 callsubr").local(8, "");
        for (int i = 10; i < 19; i++) {
            font.local(i, (i + 1) + " callsubr return");
        }
        return font.local(19, "20 callsubr return").begin();
    }

    static CharstringPress of(String program) {
        return of(font().letter("a", program).words("end"));
    }

    static CharstringPress of(TypeOneFont font) {
        CharstringPress press = new CharstringPress();
        Kit.due("read", Kit.read(press, 1, font.build()), 0);
        return press;
    }

    static int fault(String program) {
        return fault(program, 400);
    }

    static int fault(String program, int limit) {
        return of(program).draw(0, limit);
    }

    /** The outline, with what it came to ahead of it if that is no 0. */
    static String outline(String program) {
        return outline(program, 400);
    }

    static String outline(String program, int limit) {
        CharstringPress press = of(program);
        int fault = press.draw(0, limit);
        return (fault == 0 ? "" : fault + ": ") + Kit.outline(press);
    }

    static String came(String program) {
        CharstringPress press = of(program);
        return Kit.came(press, press.draw(0, 400));
    }
}
