import java.util.Random;

/** Runs of calls with any arguments: no call may throw, and the same calls give the same answers. */
public final class FuzzTest {
    private static final int RUNS = 4000;
    private static final int CALLS = 60;
    private static final int[] EDGES = {-1, 0, 1, 2, 3, 4, 5, 6, 8, 9, 20, 39, 40, 41, 399, 400, 401, 1499, 1500,
        1501, 65535, 65536, Integer.MAX_VALUE, Integer.MIN_VALUE};

    private FuzzTest() {
    }

    public static void main(String[] args) {
        for (int seed = 0; seed < RUNS; seed++) {
            Kit.due("run " + seed + " again", run(seed), run(seed));
        }
        Kit.close("FuzzTest");
    }

    private static long run(int seed) {
        Random source = new Random(seed);
        CharstringPress press = new CharstringPress();
        long sum = 0;
        for (int i = 0; i < CALLS; i++) {
            sum = sum * 31 + (source.nextInt(4) == 0 ? font(press, source) : call(press, source));
        }
        return sum;
    }

    private static int any(Random source) {
        return source.nextInt(3) == 0 ? source.nextInt(12) - 2 : EDGES[source.nextInt(EDGES.length)];
    }

    private static long call(CharstringPress press, Random source) {
        switch (source.nextInt(15)) {
            case 0:
                return press.feed(source.nextInt(), source.nextInt(), source.nextInt(), any(source), any(source));
            case 1:
                return press.end(any(source));
            case 2:
                return press.read(any(source));
            case 3:
                return press.font(any(source));
            case 4:
                return press.code(any(source), any(source), any(source));
            case 5:
                return press.draw(any(source), any(source));
            case 6:
                return press.drawn(any(source));
            case 7:
                return press.width();
            case 8:
                return press.part(any(source));
            case 9:
                return press.at(any(source), any(source), any(source));
            case 10:
                return press.cipher(any(source), any(source));
            case 11:
                return press.plain(any(source), any(source));
            case 12:
                return press.octet(any(source));
            case 13:
                return press.back();
            default:
                return press.count(any(source));
        }
    }

    /** Reads a font, sometimes with a byte changed, and draws its letters. */
    private static long font(CharstringPress press, Random source) {
        press.end(0);
        boolean cff = source.nextBoolean();
        byte[] font = cff ? cffFont(source) : typeOneFont(source);
        if (font.length > 1500) {
            return 0;
        }
        if (source.nextInt(3) == 0) {
            font[source.nextInt(font.length)] = (byte) source.nextInt(256);
        }
        Kit.feed(press, font);
        if (source.nextInt(5) == 0) {
            press.end(source.nextInt(font.length));
        }
        long sum = press.read(cff ? 0 : 1);
        for (int k = 0; k < 5; k++) {
            sum = sum * 31 + press.draw(k, source.nextInt(401));
            sum = sum * 31 + Kit.came(press, 0).hashCode();
            sum = sum * 31 + Kit.outline(press).hashCode();
        }
        return sum;
    }

    private static byte[] cffFont(Random source) {
        CffFont font = new CffFont().widths(source.nextInt(), source.nextInt());
        for (int i = 0; i < 5; i++) {
            font.letters.add(program(source, true));
            font.locals.add(program(source, true));
            font.globals.add(program(source, true));
        }
        return font.build();
    }

    private static byte[] typeOneFont(Random source) {
        TypeOneFont font = new TypeOneFont().lenIV(source.nextInt(5)).words("/Subrs 5 array ");
        for (int i = 0; i < 5; i++) {
            font.local(i, "#" + Kit.hex(program(source, false)));
        }
        font.begin();
        for (int i = 0; i < 5; i++) {
            font.letter("a", program(source, false));
        }
        return source.nextBoolean() ? font.words("end").build() : font.words("end").buildDigits();
    }

    /** Numbers and operators by chance, with calls of the five subroutines among them. */
    private static byte[] program(Random source, boolean cff) {
        byte[] all = new byte[0];
        int many = source.nextInt(12);
        for (int i = 0; i < many; i++) {
            int numbers = source.nextInt(8);
            for (int n = 0; n < numbers; n++) {
                all = Kit.join(all, Kit.bytes(134 + source.nextInt(14)));
            }
            switch (source.nextInt(4)) {
                case 0:
                    all = Kit.join(all, Kit.bytes((cff ? 32 : 139) + source.nextInt(6), 10));
                    break;
                case 1:
                    all = Kit.join(all, Kit.bytes(12, source.nextInt(38)));
                    break;
                case 2:
                    all = Kit.join(all, Kit.bytes(source.nextInt(33)));
                    break;
                default:
                    all = Kit.join(all, Kit.random(source, 1 + source.nextInt(2)));
                    break;
            }
        }
        return Kit.join(all, Kit.bytes(source.nextBoolean() ? 11 : 14));
    }
}
