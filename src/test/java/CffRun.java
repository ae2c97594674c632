/** A program of the Compact Font Format, run as letter 0 of a font whose DEFAULT is 300 and NOMINAL 600. */
final class CffRun {
    private CffRun() {
    }

    static CharstringPress of(CffFont font) {
        CharstringPress press = new CharstringPress();
        Kit.due("read", Kit.read(press, 0, font.build()), 0);
        return press;
    }

    private static CharstringPress of(String program) {
        return of(CffFont.of(program).widths(300, 600));
    }

    static int fault(String program) {
        return fault(program, 400);
    }

    static int fault(String program, int limit) {
        return of(program).draw(0, limit);
    }

    /** The outline, with what it came to ahead of it if that is no 0. */
    static String outline(String program) {
        return outline(program, 400);
    }

    static String outline(String program, int limit) {
        CharstringPress press = of(program);
        int fault = press.draw(0, limit);
        return (fault == 0 ? "" : fault + ": ") + Kit.outline(press);
    }

    static String came(String program) {
        CharstringPress press = of(program);
        return Kit.came(press, press.draw(0, 400));
    }

    /** The WIDTH that it tells, as text. */
    static String width(String program) {
        CharstringPress press = of(program);
        press.draw(0, 400);
        return Kit.fixed(press.width());
    }

    /** What is on the PILE behind a program, the lowest first: as lines along x and y by turns tell it. */
    static String pile(String program) {
        CharstringPress press = of(program + " hlineto endchar");
        int fault = press.draw(0, 400);
        if (fault != 0) {
            return "fault " + fault;
        }
        StringBuilder text = new StringBuilder();
        for (int i = 0; i < press.drawn(0) - 1; i++) {
            long ahead = i == 0 ? 0 : press.at(i - 1, 0, i % 2);
            text.append(i == 0 ? "" : " ").append(Kit.fixed(press.at(i, 0, i % 2) - ahead));
        }
        return text.toString();
    }
}
