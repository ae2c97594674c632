/** Builds a font of Type 1: a text in pieces, with ciphered programs between. */
final class TypeOneFont {
    private byte[] text = new byte[0];
    private int lenIV = 4;

    TypeOneFont words(String words) {
        text = Kit.join(text, Kit.ascii(words));
        return this;
    }

    TypeOneFont lenIV(int n) {
        lenIV = n;
        return words("/lenIV " + n + " def\n");
    }

    TypeOneFont local(int i, String program) {
        byte[] code = ciphered(Program.typeOne(program), lenIV);
        words("dup " + i + " " + code.length + " RD ");
        text = Kit.join(text, code);
        return words(" NP\n");
    }

    TypeOneFont letter(String name, String program) {
        return letter(name, Program.typeOne(program));
    }

    TypeOneFont letter(String name, byte[] program) {
        byte[] code = ciphered(program, lenIV);
        words("/" + name + " " + code.length + " -| ");
        text = Kit.join(text, code);
        return words(" |-\n");
    }

    TypeOneFont begin() {
        return words("2 index /CharStrings 9 dict dup begin\n");
    }

    static TypeOneFont of(String... programs) {
        TypeOneFont font = new TypeOneFont().begin();
        for (int i = 0; i < programs.length; i++) {
            font.letter("g" + i, programs[i]);
        }
        return font.words("end");
    }

    static byte[] ciphered(byte[] program, int ahead) {
        return Kit.cipher(Kit.join(new byte[ahead], program), 4330);
    }

    byte[] text() {
        return text;
    }

    byte[] build() {
        return wrap(text);
    }

    byte[] buildDigits() {
        return Kit.join(Kit.ascii("currentfile eexec\n"), digits(text));
    }

    static byte[] wrap(byte[] text) {
        return Kit.join(Kit.ascii("%!PS currentfile eexec\n"), Kit.cipher(Kit.join(new byte[4], text), 55665));
    }

    static byte[] wrap(String text) {
        return wrap(Kit.ascii(text));
    }

    /** The text as digits, with blanks between some of them. */
    static byte[] digits(byte[] text) {
        String all = Kit.hex(Kit.cipher(Kit.join(new byte[4], text), 55665));
        StringBuilder broken = new StringBuilder();
        for (int i = 0; i < all.length(); i++) {
            char digit = all.charAt(i);
            broken.append(i % 3 == 0 ? Character.toUpperCase(digit) : digit);
            if (i % 7 == 6) {
                broken.append("\t\n\r ".charAt(i / 7 % 4));
            }
        }
        return Kit.ascii(broken.toString());
    }
}
