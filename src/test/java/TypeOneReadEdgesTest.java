/** The edges of term III: each sentence that names one, by itself; the FAULTS, each in its order. */
public final class TypeOneReadEdgesTest {
    private static final int NONE = CharstringPress.NONE;
    private static final String LETTERS = "/CharStrings 1 dict dup begin ";
    private static final String ONE = LETTERS + "/a 1 RD z ND end";

    private TypeOneReadEdgesTest() {
    }

    public static void main(String[] args) {
        blankBehindEexec();
        firstEexec();
        fourBehindEexec();
        digitsOrBytes();
        digitsOfAllKinds();
        blanksBetweenDigits();
        otherBytesBetweenDigits();
        firstFourLeftOut();
        blanksBetweenWords();
        countBounds();
        lenIV();
        lenIVOfLocals();
        localsMost();
        localsWords();
        localsAnew();
        localBelow();
        localWords();
        localAnew();
        oneBlank();
        bytesOfALocal();
        dupsThatCountNothing();
        otherWords();
        lettersHead();
        letterNames();
        letterWords();
        wordBehind();
        endEndsAll();
        fortyLetters();
        leftOut();
        endsAhead();
        noLetters();
        firstAlongTheText();
        Kit.close("TypeOneReadEdgesTest");
    }

    private static int fault(String text) {
        return Kit.fault(1, TypeOneFont.wrap(text));
    }

    private static CharstringPress read(String text) {
        CharstringPress press = new CharstringPress();
        Kit.due("read " + text, Kit.read(press, 1, TypeOneFont.wrap(text)), 0);
        return press;
    }

    /** A text in its cipher, whose four bytes ahead are such that the cipher begins with these. */
    private static byte[] ciphered(byte[] first, String text) {
        byte[] ahead = new byte[4];
        for (int i = 0; i < 4; i++) {
            // What a byte of 0 becomes there tells the key; with it the byte that is wanted.
            byte[] probe = Kit.cipher(ahead, 55665);
            ahead[i] = (byte) (probe[i] ^ first[i]);
        }
        return Kit.cipher(Kit.join(ahead, Kit.ascii(text)), 55665);
    }

    private static void blankBehindEexec() {
        Kit.sentence("Up to the first place where the six bytes \"eexec\" and one of 9, 10, 13, 32 stand anything");
        byte[] body = Kit.cipher(Kit.join(new byte[4], Kit.ascii(ONE)), 55665);
        for (int b = 0; b <= 255; b++) {
            boolean blank = b == 9 || b == 10 || b == 13 || b == 32;
            Kit.due("eexec and " + b, Kit.fault(1, Kit.join(Kit.ascii("eexec"), Kit.bytes(b), body)), blank ? 0 : 1);
        }
    }

    private static void firstEexec() {
        Kit.sentence("Up to the first place where the six bytes \"eexec\" and one of 9, 10, 13, 32 stand anything");
        byte[] body = Kit.cipher(Kit.join(new byte[4], Kit.ascii(ONE)), 55665);
        String[] ahead = {"", "x", "eexec", "eexecx", "eeexec", "eexe eexeceexe", "exec ", "EEXEC "};
        for (String text : ahead) {
            Kit.due("behind '" + text + "'", Kit.fault(1, Kit.join(Kit.ascii(text + "eexec "), body)), 0);
        }
        Kit.due("behind 1000 bytes of any kind", Kit.fault(1, Kit.join(Kit.random(new java.util.Random(3), 1000),
                Kit.ascii("eexec "), body)), 0);
        Kit.due("a second one is no more looked for", Kit.fault(1, Kit.join(Kit.ascii("eexec eexec "), body)), 1);
        Kit.due("as the tape's last six bytes", Kit.fault(1, Kit.ascii("zzeexec ")), 1);
        Kit.due("a text in its cipher, without eexec", Kit.fault(1, body), 1);
        Kit.due("a text in digits, without eexec", Kit.fault(1, Kit.ascii(Kit.hex(body))), 1);
        String[] without = {"", "eexec", "eexe", "eexecx", "exec ", "e exec ", "eexeC "};
        for (String text : without) {
            Kit.due("without: " + text, Kit.fault(1, Kit.join(Kit.ascii(text))), 1);
        }
    }

    private static void fourBehindEexec() {
        Kit.sentence("behind it at least 4 bytes");
        Kit.due("none", Kit.fault(1, Kit.ascii("eexec ")), 1);
        Kit.due("three digits", Kit.fault(1, Kit.ascii("eexec 123")), 1);
        Kit.due("three others", Kit.fault(1, Kit.ascii("eexec xyz")), 1);
        Kit.due("four digits: two bytes", Kit.fault(1, Kit.ascii("eexec 1234")), 1);
        Kit.due("four others: an empty text", Kit.fault(1, Kit.ascii("eexec wxyz")), 1);
        Kit.due("six digits: three bytes", Kit.fault(1, Kit.ascii("eexec 123456")), 1);
        Kit.due("eight digits: an empty text", Kit.fault(1, Kit.ascii("eexec 12345678")), 1);
    }

    private static void digitsOrBytes() {
        Kit.sentence("if the first four are all hexadecimal digits, the bytes are told by two such digits each; "
                + "else they are as they stand.");
        byte[] head = Kit.ascii("eexec ");
        String digits = "09afAF";
        for (int i = 0; i < digits.length(); i++) {
            String one = digits.substring(i, i + 1);
            byte[] first = Kit.bytes(Integer.parseInt(one + one, 16), 0, 0, 0);
            String hex = one + one + Kit.hex(ciphered(first, ONE)).substring(2);
            Kit.due("digits that begin with " + one, Kit.fault(1, Kit.join(head, Kit.ascii(hex))), 0);
        }
        int[] others = {'0' - 1, '9' + 1, 'a' - 1, 'f' + 1, 'A' - 1, 'F' + 1, 0, 255, ' '};
        for (int at = 0; at < 4; at++) {
            for (int other : others) {
                byte[] first = Kit.with(Kit.ascii("0aF9"), at, other);
                Kit.due("byte " + other + " at " + at, Kit.fault(1, Kit.join(head, ciphered(first, ONE))), 0);
            }
        }
        Kit.due("four bytes that are digits by chance", Kit.fault(1, Kit.join(head, ciphered(Kit.ascii("0aF9"), ONE))), 2);
    }

    private static void digitsOfAllKinds() {
        Kit.sentence("if the first four are all hexadecimal digits, the bytes are told by two such digits each");
        byte[] head = Kit.ascii("eexec ");
        String text = LETTERS + "/a 9 RD 012345678 ND end";
        String hex = Kit.hex(ciphered(Kit.bytes(0x01, 0x23, 0x45, 0x67), text));
        Kit.due("small digits", Kit.fault(1, Kit.join(head, Kit.ascii(hex))), 0);
        Kit.due("great digits", Kit.fault(1, Kit.join(head, Kit.ascii(hex.toUpperCase()))), 0);
        CharstringPress small = new CharstringPress();
        Kit.read(small, 1, Kit.join(head, Kit.ascii(hex)));
        CharstringPress plain = new CharstringPress();
        Kit.read(plain, 1, TypeOneFont.wrap(text));
        Kit.due("the same font as by bytes", Kit.state(small), Kit.state(plain));
    }

    private static void blanksBetweenDigits() {
        Kit.sentence("(9, 10, 13, 32 between any of them count nothing");
        byte[] head = Kit.ascii("eexec ");
        String hex = Kit.hex(ciphered(Kit.bytes(0x12, 0x34, 0x56, 0x78), ONE));
        String[] blanks = {"\t", "\n", "\r", " ", " \t\r\n"};
        for (String blank : blanks) {
            int[] places = {4, 5, 6, 7, hex.length() - 1, hex.length()};
            for (int at : places) {
                String told = hex.substring(0, at) + blank + hex.substring(at);
                Kit.due("blanks at " + at, Kit.fault(1, Kit.join(head, Kit.ascii(told))), 0);
            }
            String among = hex.substring(0, 3) + blank + hex.substring(3);
            Kit.due("a blank among the first four: as they stand", Kit.fault(1, Kit.join(head, Kit.ascii(among))), 1);
        }
        Kit.due("blanks alone behind four digits", Kit.fault(1, Kit.ascii("eexec 1234   ")), 1);
    }

    private static void otherBytesBetweenDigits() {
        Kit.sentence("another byte, or an odd number of digits: 2)");
        byte[] head = Kit.ascii("eexec ");
        String hex = Kit.hex(ciphered(Kit.bytes(0x12, 0x34, 0x56, 0x78), ONE));
        for (int b = 0; b <= 255; b++) {
            boolean digit = Character.digit(b, 16) >= 0 && b < 128;
            boolean blank = b == 9 || b == 10 || b == 13 || b == 32;
            byte[] told = Kit.join(head, Kit.ascii(hex), Kit.bytes(b));
            Kit.due("byte " + b + " behind them", Kit.fault(1, told), blank ? 0 : 2);
            told = Kit.join(head, Kit.ascii(hex.substring(0, 40)), Kit.bytes(b, '0'), Kit.ascii(hex.substring(40)));
            if (!digit) {
                Kit.due("byte " + b + " between them", Kit.fault(1, told), 2);
            }
        }
        Kit.due("five digits", Kit.fault(1, Kit.ascii("eexec 12345")), 2);
        Kit.due("seven digits and a blank", Kit.fault(1, Kit.ascii("eexec 1234567 ")), 2);
        Kit.due("one digit too few", Kit.fault(1, Kit.join(head, Kit.ascii(hex.substring(0, hex.length() - 1)))), 2);
    }

    private static void firstFourLeftOut() {
        Kit.sentence("PLAIN with the key 55665, the first four left out, they are the PRIVATE text.");
        byte[] head = Kit.ascii("eexec ");
        Kit.due("zeros ahead", Kit.fault(1, Kit.join(head, Kit.cipher(Kit.ascii("\0\0\0\0" + ONE), 55665))), 0);
        Kit.due("other bytes ahead", Kit.fault(1, Kit.join(head, Kit.cipher(Kit.ascii("/len" + ONE), 55665))), 0);
        Kit.due("three bytes ahead: the text begins later", Kit.fault(1, Kit.join(head, Kit.cipher(Kit.ascii("\0\0\0"
                + ONE), 55665))), 1);
        Kit.due("another key", Kit.fault(1, Kit.join(head, Kit.cipher(Kit.ascii("\0\0\0\0" + ONE), 55664))), 1);
    }

    private static void blanksBetweenWords() {
        Kit.sentence("It is WORDS, with blanks (9, 10, 13, 32) between.");
        for (int b = 0; b <= 255; b++) {
            boolean blank = b == 9 || b == 10 || b == 13 || b == 32;
            String sign = String.valueOf((char) b);
            String text = "/CharStrings" + sign + "1 dict dup begin /a 1 RD z ND end";
            Kit.due("byte " + b + " behind a word", fault(text), blank ? 0 : 1);
            text = LETTERS + "/a 1 RD z ND end" + sign;
            Kit.due("byte " + b + " behind the end", fault(text), blank ? 0 : 2);
        }
        Kit.due("blanks ahead of all", fault(" \t\r\n" + ONE), 0);
        Kit.due("many blanks between", fault("/CharStrings  \t 1 \n dict\r\rdup \n begin  /a\t\t1 \r RD z  ND \t end"), 0);
        Kit.due("blanks alone", fault(" \t\r\n"), 1);
    }

    private static void countBounds() {
        Kit.sentence("a COUNT (digits, below 10000)");
        String[] right = {"0", "1", "9999", "09999", "0000000000000000000000001", "0000"};
        for (String count : right) {
            Kit.due("count " + count, fault("/CharStrings " + count + " dict dup begin /a 1 RD z ND end"), 0);
        }
        String[] wrong = {"10000", "99999", "010000", "4294967296", "2147483648", "18446744073709551616", "-1", "+1",
            "1.0", "1x", "x1", "x", "16#1", "/", ":", "1:", "1/"};
        for (String count : wrong) {
            Kit.due("count " + count, fault("/CharStrings " + count + " dict dup begin /a 1 RD z ND end"), 2);
        }
    }

    private static void lenIV() {
        Kit.sentence("LENIV is 4 at first. \"/lenIV\", then a COUNT (digits, below 10000): LENIV.");
        CharstringPress press = read(LETTERS + "/a 6 RD 123456 ND end");
        Kit.due("4 at first", Kit.code(press, 0, 0).length() / 2, 2);
        int[] counts = {0, 1, 5, 6, 7, 9999};
        for (int n : counts) {
            press = read("/lenIV " + n + " def " + LETTERS + "/a 6 RD 123456 ND end");
            Kit.due("lenIV " + n, Kit.code(press, 0, 0).length() / 2, Math.max(0, 6 - n));
        }
        press = read("/lenIV 0 /lenIV 5 " + LETTERS + "/a 6 RD 123456 ND end");
        Kit.due("told again", Kit.code(press, 0, 0).length() / 2, 1);
        press = new CharstringPress();
        Kit.read(press, 1, TypeOneFont.wrap("/lenIV 0 " + LETTERS + "/a 6 RD 123456 ND end"));
        Kit.read(press, 1, TypeOneFont.wrap(LETTERS + "/a 6 RD 123456 ND end"));
        Kit.due("4 at first again, of another font", Kit.code(press, 0, 0).length() / 2, 2);
        Kit.due("10000", fault("/lenIV 10000 " + ONE), 2);
        Kit.due("below 0", fault("/lenIV -1 " + ONE), 2);
        Kit.due("another word", fault("/lenIV " + ONE), 2);
        Kit.due("the text's end", fault("/lenIV"), 1);
        Kit.due("the text's end", fault("/lenIV 4"), 1);
        Kit.due("a word like it", fault("/lenIVx x /lenI x lenIV x " + ONE), 0);
    }

    private static void lenIVOfLocals() {
        Kit.sentence("Each LETTER, LOCAL is PLAIN with the key 4330, its first LENIV bytes left out");
        CharstringPress press = read("/lenIV 2 /Subrs 1 array dup 0 5 RD 12345 NP " + ONE);
        Kit.due("a local", Kit.code(press, 1, 0).length() / 2, 3);
        byte[] plain = Kit.bytes(0, 255, 14, 128);
        TypeOneFont font = new TypeOneFont().lenIV(1).begin().letter("a", plain).words("end");
        press = new CharstringPress();
        Kit.due("a letter", Kit.read(press, 1, font.build()), 0);
        Kit.due("its bytes", Kit.code(press, 0, 0), "00ff0e80");
    }

    private static void localsMost() {
        Kit.sentence("\"/Subrs\", a COUNT n (200 at most), \"array\": that many LOCALS, none told yet");
        int[] right = {0, 1, 199, 200};
        for (int n : right) {
            CharstringPress press = read("/Subrs " + n + " array " + ONE);
            Kit.due("how many", press.font(2), n);
            for (int k = 0; k <= n; k++) {
                Kit.due("local " + k + " is not told", press.code(1, k, 0), NONE);
            }
        }
        String[] wrong = {"201", "256", "9999", "10000", "-1", "x", "array"};
        for (String count : wrong) {
            Kit.due("/Subrs " + count, fault("/Subrs " + count + " array " + ONE), 2);
        }
        CharstringPress press = read("/lenIV 0 /Subrs 200 array dup 199 1 RD x NP " + ONE);
        Kit.due("the last one is told", Kit.code(press, 1, 199).length(), 2);
        Kit.due("without /Subrs there is none", read(ONE).font(2), 0);
    }

    private static void localsWords() {
        Kit.sentence("\"/Subrs\", a COUNT n (200 at most), \"array\"");
        String[] wrong = {"arra", "arrayx", "Array", "dup", "2"};
        for (String word : wrong) {
            Kit.due("/Subrs 2 " + word, fault("/Subrs 2 " + word + " " + ONE), 2);
        }
        Kit.due("the text's end", fault("/Subrs"), 1);
        Kit.due("the text's end", fault("/Subrs 2"), 1);
        Kit.due("201, then the text's end", fault("/Subrs 201"), 2);
    }

    private static void localsAnew() {
        Kit.sentence("(anew, if told again)");
        CharstringPress press = read("/lenIV 0 /Subrs 3 array dup 0 1 RD x NP dup 2 1 RD x NP /Subrs 2 array "
                + "dup 1 1 RD x NP " + ONE);
        Kit.due("how many", press.font(2), 2);
        Kit.due("the first is not told", press.code(1, 0, 0), NONE);
        Kit.due("the second is", press.code(1, 1, 0) >= 0 ? 1 : 0, 1);
        press = read("/lenIV 0 /Subrs 1 array dup 0 1 RD x NP /Subrs 5 array " + ONE);
        Kit.due("more", press.font(2), 5);
        Kit.due("the first is not told", press.code(1, 0, 0), NONE);
        press = read("/Subrs 5 array /Subrs 0 array " + ONE);
        Kit.due("none", press.font(2), 0);
        Kit.due("above the new number", fault("/Subrs 3 array /Subrs 1 array dup 1 1 RD x NP " + ONE), 2);
    }

    private static void localBelow() {
        Kit.sentence("\"dup\", two COUNTS i (below n) and m");
        Kit.due("the last", fault("/Subrs 3 array dup 2 1 RD x NP " + ONE), 0);
        Kit.due("n itself", fault("/Subrs 3 array dup 3 1 RD x NP " + ONE), 2);
        Kit.due("9999", fault("/Subrs 3 array dup 9999 1 RD x NP " + ONE), 2);
        Kit.due("0 of none", fault("/Subrs 0 array dup 0 1 RD x NP " + ONE), 2);
        Kit.due("n itself, then the text's end", fault("/Subrs 3 array dup 3"), 2);
        Kit.due("the last, then the text's end", fault("/Subrs 3 array dup 2"), 1);
    }

    private static void localWords() {
        Kit.sentence("\"dup\", two COUNTS i (below n) and m, \"RD\" or \"-|\", one blank, m bytes: LOCAL i");
        String[] wrong = {"x RD x", "10000 RD x", "-1 RD x", "RD x", "1 R x", "1 RDx x", "1 rd x", "1 - x", "1 -|x x", "1 |- x"};
        for (String words : wrong) {
            Kit.due("dup 0 " + words, fault("/Subrs 1 array dup 0 " + words + " NP " + ONE), 2);
        }
        Kit.due("RD", fault("/Subrs 1 array dup 0 1 RD x NP " + ONE), 0);
        Kit.due("-|", fault("/Subrs 1 array dup 0 1 -| x NP " + ONE), 0);
        Kit.due("the text's end", fault("/Subrs 1 array dup 0 1"), 1);
        Kit.due("the text's end", fault("/Subrs 1 array dup 0 1 RD"), 1);
        Kit.due("the text's end", fault("/Subrs 1 array dup 0 1 RD "), 1);
    }

    private static void localAnew() {
        Kit.sentence("LOCAL i (told anew: the last one counts)");
        TypeOneFont font = new TypeOneFont().words("/Subrs 2 array ").local(1, "1 return").local(0, "2 return");
        font.local(1, "3 3 return").begin().letter("a", "endchar").words("end");
        CharstringPress press = new CharstringPress();
        Kit.due("read", Kit.read(press, 1, font.build()), 0);
        Kit.due("the last one", Kit.code(press, 1, 1), "8e8e0b");
        Kit.due("the other one", Kit.code(press, 1, 0), "8d0b");
    }

    private static void oneBlank() {
        Kit.sentence("\"RD\" or \"-|\", one blank, m bytes");
        char[] blanks = {9, 10, 13, 32};
        for (char blank : blanks) {
            CharstringPress press = read("/lenIV 0 " + LETTERS + "/a 2 RD" + blank + "  ND end");
            Kit.due("its bytes are blanks", Kit.code(press, 0, 0).length(), 4);
            Kit.due("of no bytes", fault(LETTERS + "/a 0 RD" + blank + "ND end"), 0);
        }
        Kit.due("no blank and no bytes, at the text's end", fault(LETTERS + "/a 0 RD"), 1);
        Kit.due("a blank and no bytes, at the text's end", fault(LETTERS + "/a 0 RD "), 1);
    }

    private static void bytesOfALocal() {
        Kit.sentence("one blank, m bytes");
        String text = "/Subrs 1 array dup 0 5 RD 12345";
        Kit.due("all bytes, then the text's end", fault(text), 1);
        Kit.due("a byte less", fault("/Subrs 1 array dup 0 5 RD 1234"), 1);
        Kit.due("9999 bytes", fault("/Subrs 1 array dup 0 9999 RD 1234"), 1);
        Kit.due("words among the bytes count nothing", fault("/Subrs 1 array dup 0 18 RD /CharStrings 1 end NP " + ONE), 0);
        Kit.due("the next word at once behind them", fault("/Subrs 1 array dup 0 1 RD x" + ONE), 0);
        Kit.due("of no bytes", fault("/Subrs 1 array dup 0 0 RD " + ONE), 0);
        CharstringPress press = read("/Subrs 1 array dup 0 0 RD NP " + ONE);
        Kit.due("there is a local", press.font(2), 1);
        Kit.due("of no bytes", press.code(1, 0, 0), NONE);
    }

    private static void dupsThatCountNothing() {
        Kit.sentence("(a \"dup\" ahead of \"/Subrs\", or not followed by a COUNT, is one of these");
        String[] right = {"dup 0 1 RD x ", "dup 7 ", "dup ", "dup dup dup ", "/Subrs 1 array dup ", "/Subrs 1 array dup x ",
            "/Subrs 1 array dup 10000 ", "/Subrs 1 array dup -1 ", "/Subrs 1 array dup dup 0 1 RD x NP ",
            "dup 0 1 RD x /Subrs 1 array ", "/Subrs 1 array dup /lenIV 4 ", "/Subrs 1 array dup /Subrs 2 array "};
        for (String ahead : right) {
            Kit.due(ahead, fault(ahead + ONE), 0);
        }
        Kit.due("the word behind it counts: /Subrs", read("/Subrs 1 array dup /Subrs 2 array " + ONE).font(2), 2);
        Kit.due("the word behind it counts: dup", fault("/Subrs 1 array dup dup 1 1 RD x " + ONE), 2);
        Kit.due("the word behind it counts: /lenIV", fault("/Subrs 1 array dup /lenIV x " + ONE), 2);
        Kit.due("at the text's end", fault("/Subrs 1 array dup"), 1);
    }

    private static void otherWords() {
        Kit.sentence("Other WORDS ahead of that count nothing");
        Kit.due("any words", fault("end begin dict array RD -| 5 99999 /a /Subr /CharString x " + ONE), 0);
        Kit.due("behind LOCALS", fault("/Subrs 1 array dup 0 1 RD x NP noaccess put 5 end | " + ONE), 0);
        Kit.due("in a /lenIV's place", fault("lenIV Subrs CharStrings " + ONE), 0);
        Kit.due("a word of 300 bytes", fault("x".repeat(300) + " " + ONE), 0);
    }

    private static void lettersHead() {
        Kit.sentence("\"/CharStrings\", a COUNT, \"dict\", \"dup\", \"begin\": LETTERS follow");
        String[] wrong = {"dict dup begin ", "x dict dup begin ", "1 dup begin ", "1 dict begin ", "1 dict dup ",
            "1 dictx dup begin ", "1 dict dupx begin ", "1 dict dup beginx ", "1 dict dup end ", "1 dict dup dup begin ",
            "10000 dict dup begin "};
        for (String words : wrong) {
            Kit.due("/CharStrings " + words, fault("/CharStrings " + words + "/a 1 RD z ND end"), 2);
        }
        String[] counts = {"0", "1", "9999"};
        for (String count : counts) {
            Kit.due("the COUNT counts nothing: " + count, read("/CharStrings " + count + " dict dup begin /a 1 RD z ND "
                    + "/b 1 RD z ND end").font(1), 2);
        }
    }

    private static void letterNames() {
        Kit.sentence("each \"/\" and more (a WORD)");
        String[] right = {"/a", "//", "/end", "/.notdef", "/lenIV", "/Subrs", "/CharStrings", "/0"};
        for (String name : right) {
            Kit.due(name, fault(LETTERS + name + " 1 RD z ND end"), 0);
        }
        String[] wrong = {"/", "a", "0", "ab", "a/", "dup", "END", "ends", "en", "|"};
        for (String name : wrong) {
            Kit.due(name, fault(LETTERS + name + " 1 RD z ND end"), 2);
            Kit.due(name + " behind one", fault(LETTERS + "/a 1 RD z ND " + name + " 1 RD z ND end"), 2);
        }
        Kit.due("the same name twice is two", read(LETTERS + "/a 1 RD z ND /a 1 RD z ND end").font(1), 2);
    }

    private static void letterWords() {
        Kit.sentence("a COUNT m, \"RD\" or \"-|\", one blank, m bytes");
        String[] wrong = {"x RD z", "10000 RD z", "-1 RD z", "RD z", "1 R z", "1 RDx z", "1 rd z", "1 - z", "1 |- z", "1 z"};
        for (String words : wrong) {
            Kit.due("/a " + words, fault(LETTERS + "/a " + words + " ND end"), 2);
        }
        Kit.due("RD", fault(LETTERS + "/a 1 RD z ND end"), 0);
        Kit.due("-|", fault(LETTERS + "/a 1 -| z ND end"), 0);
        Kit.due("a byte less", fault(LETTERS + "/a 11 RD z ND end"), 1);
        Kit.due("all bytes to the text's end", fault(LETTERS + "/a 8 RD z ND end"), 1);
        Kit.due("9999 bytes", fault(LETTERS + "/a 9999 RD z ND end"), 1);
    }

    private static void wordBehind() {
        Kit.sentence("then one WORD that counts nothing");
        String[] words = {"ND", "|-", "end", "/b", "5", "x"};
        for (String word : words) {
            Kit.due("the word " + word, read(LETTERS + "/a 1 RD z " + word + " end").font(1), 1);
        }
        Kit.due("two words", fault(LETTERS + "/a 1 RD z noaccess def end"), 2);
        Kit.due("no word", fault(LETTERS + "/a 1 RD z end"), 1);
        Kit.due("at once behind the bytes", fault(LETTERS + "/a 1 RD zND end"), 0);
        Kit.due("the text's end", fault(LETTERS + "/a 1 RD z"), 1);
        Kit.due("the text's end behind it", fault(LETTERS + "/a 1 RD z ND"), 1);
    }

    private static void endEndsAll() {
        Kit.sentence("\"end\" ends all: what is behind counts nothing.");
        String[] behind = {"", " ", " x", " /lenIV x", " /Subrs 201", " /CharStrings x", " /b", "\n/b 1 RD z ND end"};
        for (String words : behind) {
            Kit.due("behind it: " + words, read(ONE + words).font(1), 1);
        }
        Kit.due("an end ahead of the letters is a word", fault("end " + ONE), 0);
    }

    private static void fortyLetters() {
        Kit.sentence("40 LETTERS at most.");
        String one = "/a 1 RD z ND ";
        Kit.due("39", read(LETTERS + one.repeat(39) + "end").font(1), 39);
        CharstringPress press = read("/lenIV 0 " + LETTERS + one.repeat(40) + "end");
        Kit.due("40", press.font(1), 40);
        Kit.due("the last one", press.code(0, 39, 0) >= 0 ? 1 : 0, 1);
        Kit.due("no 41st", press.draw(40, 0), NONE);
        Kit.due("41", fault(LETTERS + one.repeat(41) + "end"), 2);
        Kit.due("42", fault(LETTERS + one.repeat(42) + "end"), 2);
        Kit.due("40, then the text's end", fault(LETTERS + one.repeat(40)), 1);
    }

    private static void leftOut() {
        Kit.sentence("its first LENIV bytes left out (all of them, if they are fewer).");
        for (int m = 0; m <= 6; m++) {
            CharstringPress press = read("/Subrs 1 array dup 0 " + m + " RD " + "x".repeat(m) + " NP " + LETTERS + "/a "
                    + m + " RD " + "z".repeat(m) + " ND end");
            Kit.due("a letter of " + m, Kit.code(press, 0, 0).length() / 2, Math.max(0, m - 4));
            Kit.due("a local of " + m, Kit.code(press, 1, 0).length() / 2, Math.max(0, m - 4));
            Kit.due("the letter is there", press.draw(0, 0) != NONE ? 1 : 0, 1);
        }
    }

    private static void endsAhead() {
        Kit.sentence("1 it ends ahead (also without eexec, or with fewer than four bytes)");
        String[] texts = {"", " ", "x", "/lenIV", "/lenIV ", "/lenIV 4", "/Subrs ", "/Subrs 3 ", "/Subrs 3 array ",
            "/Subrs 3 array dup ", "/Subrs 3 array dup 1 ", "/Subrs 3 array dup 1 5 ", "/Subrs 3 array dup 1 5 RD ",
            "/CharStrings", "/CharStrings 1", "/CharStrings 1 dict ", "/CharStrings 1 dict dup ", LETTERS, LETTERS + "/a",
            LETTERS + "/a 5 ", LETTERS + "/a 5 -|", LETTERS + "/a 5 -| 1234", LETTERS + "/a 5 -| 12345 ",
            LETTERS + "/a 5 -| 12345 ND "};
        for (String text : texts) {
            Kit.due("the text '" + text + "'", fault(text), 1);
            Kit.due("behind a great COUNT: '" + text + "'", fault("/lenIV 9999 " + text), 1);
        }
    }

    private static void noLetters() {
        Kit.sentence("3 there are no LETTERS.");
        Kit.due("end at once", fault(LETTERS + "end"), 3);
        Kit.due("end at once, more behind", fault(LETTERS + "end /a 1 RD z ND end"), 3);
        Kit.due("with locals", fault("/Subrs 1 array dup 0 1 RD x NP " + LETTERS + "end"), 3);
        CharstringPress press = read(ONE);
        Kit.due("behind a font", Kit.read(press, 1, TypeOneFont.wrap(LETTERS + "end")), 3);
        Kit.due("which stays", press.font(1), 1);
    }

    private static void firstAlongTheText() {
        Kit.sentence("FAULTS, the first WORD or byte along the text");
        Kit.due("2 ahead of 1", fault("/lenIV x /Subrs"), 2);
        Kit.due("2 ahead of 3", fault("/Subrs 201 array " + LETTERS + "end"), 2);
        Kit.due("3 ahead of 2", fault(LETTERS + "end /a x"), 3);
        Kit.due("a local's number ahead of its count", fault("/Subrs 1 array dup 1 x"), 2);
        Kit.due("a local's number ahead of the text's end", fault("/Subrs 1 array dup 1 99 RD x"), 2);
        Kit.due("RD ahead of the text's end", fault("/Subrs 1 array dup 0 99 XX x"), 2);
        Kit.due("a 41st name ahead of the text's end", fault(LETTERS + "/a 1 RD z ND ".repeat(40) + "/a 99 RD z"), 2);
        Kit.due("digits ahead of the text", Kit.fault(1, Kit.join(Kit.ascii("eexec "), TypeOneFont.digits(
                Kit.ascii("/lenIV ")), Kit.ascii("?"))), 2);
    }
}
