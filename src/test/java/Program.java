import java.io.ByteArrayOutputStream;
import java.util.HashMap;
import java.util.Map;

/** Puts a program's words into bytes: numbers, names of operators, and bytes told as #hh. */
final class Program {
    private static final Map<String, Integer> NAMES = new HashMap<>();

    static {
        String plain = "hstem 1 vstem 3 vmoveto 4 rlineto 5 hlineto 6 vlineto 7 rrcurveto 8 closepath 9"
                + " callsubr 10 return 11 hsbw 13 endchar 14 hstemhm 18 hintmask 19 cntrmask 20"
                + " rmoveto 21 hmoveto 22 vstemhm 23 rcurveline 24 rlinecurve 25 vvcurveto 26"
                + " hhcurveto 27 callgsubr 29 vhcurveto 30 hvcurveto 31";
        String escaped = "dotsection 0 vstem3 1 hstem3 2 and 3 or 4 not 5 sbw 7 abs 9 add 10 sub 11"
                + " div 12 neg 14 eq 15 callothersubr 16 pop 17 drop 18 put 20 get 21 ifelse 22 mul 24"
                + " sqrt 26 dup 27 exch 28 index 29 roll 30 setcurrentpoint 33 hflex 34 flex 35"
                + " hflex1 36 flex1 37";
        name(plain, 0);
        name(escaped, 256);
    }

    private Program() {
    }

    private static void name(String pairs, int base) {
        String[] words = pairs.split(" ");
        for (int i = 0; i < words.length; i += 2) {
            NAMES.put(words[i], base + Integer.parseInt(words[i + 1]));
        }
    }

    static byte[] cff(String text) {
        return assemble(text, true);
    }

    static byte[] typeOne(String text) {
        return assemble(text, false);
    }

    private static byte[] assemble(String text, boolean cff) {
        ByteArrayOutputStream out = new ByteArrayOutputStream();
        for (String word : text.trim().split("\\s+")) {
            if (word.isEmpty()) {
                continue;
            }
            if (word.charAt(0) == '#') {
                for (int i = 1; i < word.length(); i += 2) {
                    out.write(Integer.parseInt(word.substring(i, i + 2), 16));
                }
            } else if (NAMES.containsKey(word)) {
                int operator = NAMES.get(word);
                if (operator >= 256) {
                    out.write(12);
                }
                out.write(operator & 255);
            } else if (word.indexOf('.') >= 0) {
                long32(out, (int) Math.round(Double.parseDouble(word) * 65536));
            } else {
                whole(out, Integer.parseInt(word), cff);
            }
        }
        return out.toByteArray();
    }

    private static void whole(ByteArrayOutputStream out, int n, boolean cff) {
        if (n >= -107 && n <= 107) {
            out.write(n + 139);
        } else if (n >= 108 && n <= 1131) {
            out.write(247 + (n - 108) / 256);
            out.write((n - 108) % 256);
        } else if (n >= -1131 && n <= -108) {
            out.write(251 + (-n - 108) / 256);
            out.write((-n - 108) % 256);
        } else if (cff) {
            out.write(28);
            out.write(n >> 8);
            out.write(n);
        } else {
            long32(out, n);
        }
    }

    private static void long32(ByteArrayOutputStream out, int told) {
        out.write(255);
        out.write(told >> 24);
        out.write(told >> 16);
        out.write(told >> 8);
        out.write(told);
    }
}
