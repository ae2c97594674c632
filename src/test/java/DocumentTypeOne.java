/** Term III of the document, sentence by sentence. */
final class DocumentTypeOne {
    private static final int NONE = CharstringPress.NONE;
    private static final String BEGIN = "/CharStrings 1 dict dup begin ";
    private static final String REST = BEGIN + "/a 1 RD z ND end";

    private DocumentTypeOne() {
    }

    static void walk(Walk walk) {
        walk.tells("III. TYPE 1.");
        eexec(walk);
        digits(walk);
        words(walk);
        locals(walk);
        letters(walk);
        otherWords(walk);
        programs(walk);
        faults(walk);
    }

    private static void fault(String text, int due) {
        Kit.due(text, Kit.fault(1, TypeOneFont.wrap(text)), due);
    }

    private static CharstringPress read(TypeOneFont font) {
        CharstringPress press = new CharstringPress();
        Kit.due("read", Kit.read(press, 1, font.build()), 0);
        return press;
    }

    private static byte[] ciphered(String text) {
        return Kit.cipher(Kit.ascii("zzzz" + text), 55665);
    }

    private static void eexec(Walk walk) {
        walk.says("Up to the first place where the six bytes \"eexec\" and one of 9, 10, 13, 32 stand anything;");
        String[] ahead = {"eexec\t", "eexec\n", "eexec\r", "eexec ", "anything\0eexec\n", "eexeceexec ", "eexecx eexec "};
        for (String text : ahead) {
            Kit.due(text, Kit.fault(1, Kit.join(Kit.ascii(text), ciphered(REST))), 0);
        }
        Kit.due("the first place", Kit.fault(1, Kit.join(Kit.ascii("eexec eexec "), ciphered(REST))), 1);
        Kit.due("no blank", Kit.fault(1, Kit.join(Kit.ascii("eexec\0"), ciphered(REST))), 1);
        walk.says("behind it at least 4 bytes:");
        Kit.due("three", Kit.fault(1, Kit.ascii("eexec 12z")), 1);
        Kit.due("none", Kit.fault(1, Kit.ascii("eexec ")), 1);
    }

    private static void digits(Walk walk) {
        walk.says("if the first four are all hexadecimal digits, the bytes are told by two such digits each (9, 10, 13, 32 "
                + "between any of them count nothing; another byte, or an odd number of digits: 2);");
        String hex = Kit.hex(ciphered(REST));
        Kit.due("digits", Kit.fault(1, Kit.ascii("eexec " + hex)), 0);
        Kit.due("great digits", Kit.fault(1, Kit.ascii("eexec " + hex.toUpperCase())), 0);
        String blanks = hex.substring(0, 4) + "\t\n" + hex.substring(4, 7) + "\r" + hex.substring(7) + " ";
        Kit.due("blanks between", Kit.fault(1, Kit.ascii("eexec " + blanks)), 0);
        Kit.due("another byte", Kit.fault(1, Kit.ascii("eexec " + hex.substring(0, 8) + "g" + hex.substring(8))), 2);
        Kit.due("one more", Kit.fault(1, Kit.ascii("eexec " + hex.substring(0, 9))), 2);
        Kit.due("four digits tell two bytes", Kit.fault(1, Kit.ascii("eexec 1234")), 1);
        walk.says("else they are as they stand.");
        Kit.due("as they stand", Kit.fault(1, Kit.join(Kit.ascii("eexec "), ciphered(REST))), 0);
        Kit.due("three digits and another", Kit.fault(1, Kit.ascii("eexec 123 4567890")), 1);
        walk.says("PLAIN with the key 55665, the first four left out, they are the PRIVATE text.");
        Kit.due("with that key", Kit.fault(1, Kit.join(Kit.ascii("eexec "), Kit.cipher(Kit.ascii("abcd" + REST), 55665))), 0);
        Kit.due("with another", Kit.fault(1, Kit.join(Kit.ascii("eexec "), Kit.cipher(Kit.ascii("abcd" + REST), 55664))), 1);
        Kit.due("\"/Char\" is left out with them",
                Kit.fault(1, Kit.join(Kit.ascii("eexec "), Kit.cipher(Kit.ascii(REST), 55665))), 1);
    }

    private static void words(Walk walk) {
        walk.says("It is WORDS, with blanks (9, 10, 13, 32) between.");
        fault("\t/CharStrings\n1\r\rdict dup \n\t begin\t/a\r1\nRD\tz\nND\rend", 0);
        fault("/CharStrings\f1 dict dup begin /a 1 RD z ND end", 1);
        fault("/CharStrings 1 dictdup begin", 2);
        walk.says("LENIV is 4 at first.");
        byte[] five = Kit.cipher(Kit.bytes(9, 9, 9, 9, 14), 4330);
        CharstringPress press = read(new TypeOneFont().begin().letter("a", "endchar").words("end"));
        Kit.due("four are left out", Kit.code(press, 0, 0), "0e");
        press = new CharstringPress();
        byte[] text = Kit.join(Kit.ascii(BEGIN + "/a 5 RD "), five, Kit.ascii(" ND end"));
        Kit.due("whatever they are", Kit.read(press, 1, TypeOneFont.wrap(text)), 0);
        Kit.due("four are left out", Kit.code(press, 0, 0), "0e");
        walk.says("\"/lenIV\", then a COUNT (digits, below 10000): LENIV.");
        for (int n = 0; n <= 5; n++) {
            press = new CharstringPress();
            text = Kit.join(Kit.ascii("/lenIV " + n + " def " + BEGIN + "/a 5 RD "), five, Kit.ascii(" ND end"));
            Kit.due("lenIV " + n, Kit.read(press, 1, TypeOneFont.wrap(text)), 0);
            Kit.due("what is left", Kit.code(press, 0, 0), "090909090e".substring(2 * n));
        }
        fault("/lenIV 9999 " + REST, 0);
        fault("/lenIV 0000000000000009 " + REST, 0);
        fault("/lenIV 10000 " + REST, 2);
        fault("/lenIV -1 " + REST, 2);
        fault("/lenIV 4x " + REST, 2);
        fault("/lenIV", 1);
    }

    private static void locals(Walk walk) {
        walk.says("\"/Subrs\", a COUNT n (200 at most), \"array\": that many LOCALS, none told yet (anew, if told again).");
        CharstringPress press = read(new TypeOneFont().words("/Subrs 200 array " + REST));
        Kit.due("200", press.font(2), 200);
        Kit.due("none told yet", press.code(1, 0, 0), NONE);
        fault("/Subrs 201 array " + REST, 2);
        fault("/Subrs x array " + REST, 2);
        fault("/Subrs 1 arrays " + REST, 2);
        press = read(new TypeOneFont().words("/Subrs 3 array ").local(1, "return").words("/Subrs 2 array " + REST));
        Kit.due("anew", press.font(2), 2);
        Kit.due("none told yet again", press.code(1, 1, 0), NONE);
        walk.says("\"dup\", two COUNTS i (below n) and m, \"RD\" or \"-|\", one blank, m bytes: LOCAL i (told anew: the last one "
                + "counts).");
        TypeOneFont font = new TypeOneFont().words("/Subrs 3 array ").local(2, "#01").local(0, "#02").local(2, "#0304");
        press = read(font.words(REST));
        Kit.due("0", Kit.code(press, 1, 0), "02");
        Kit.due("1 is not told", press.code(1, 1, 0), NONE);
        Kit.due("2, the last one", Kit.code(press, 1, 2), "0304");
        fault("/Subrs 3 array dup 2 1 -| z NP " + REST, 0);
        fault("/Subrs 3 array dup 2 0 RD  NP " + REST, 0);
        fault("/Subrs 3 array dup 3 1 RD z NP " + REST, 2);
        fault("/Subrs 3 array dup 2 x RD z NP " + REST, 2);
        fault("/Subrs 3 array dup 2 1 RX z NP " + REST, 2);
        fault("/Subrs 3 array dup 2 9 RD z NP ", 1);
        fault("/Subrs 3 array dup 2 7 RD \t/a end " + REST, 0);
    }

    private static void letters(Walk walk) {
        walk.says("\"/CharStrings\", a COUNT, \"dict\", \"dup\", \"begin\": LETTERS follow, each \"/\" and more (a WORD), a COUNT m, "
                + "\"RD\" or \"-|\", one blank, m bytes; then one WORD that counts nothing;");
        String[] heads = {"/CharStrings x dict dup begin", "/CharStrings 1 dictx dup begin", "/CharStrings 1 dict begin",
            "/CharStrings 1 dict dup begins"};
        for (String head : heads) {
            fault(head + " /a 1 RD z ND end", 2);
        }
        fault("/CharStrings 9999 dict dup begin /a 1 RD z ND end", 0);
        CharstringPress press = read(new TypeOneFont().words(BEGIN).letter("a", "#01").letter("a", "#02").letter("//", "#03")
                .words("end"));
        Kit.due("three", press.font(1), 3);
        Kit.due("the second", Kit.code(press, 0, 1), "02");
        fault(BEGIN + "/ 1 RD z ND end", 2);
        fault(BEGIN + "a 1 RD z ND end", 2);
        fault(BEGIN + "/a x RD z ND end", 2);
        fault(BEGIN + "/a 1 DR z ND end", 2);
        fault(BEGIN + "/a 1 -| z |- end", 0);
        fault(BEGIN + "/a 1 RD z end end", 0);
        fault(BEGIN + "/a 1 RD z /b end", 0);
        fault(BEGIN + "/a 1 RD zND end", 0);
        fault(BEGIN + "/a 1 RD z ND ND end", 2);
        fault(BEGIN + "/a 1 RD z end", 1);
        walk.says("\"end\" ends all: what is behind counts nothing.");
        fault(REST + " /lenIV x /Subrs 900 /CharStrings 1 dict dup begin", 0);
        fault(REST, 0);
        press = read(new TypeOneFont().words(BEGIN).letter("a", "#01").words("end ").letter("b", "#02").words("end"));
        Kit.due("no letter behind it", press.font(1), 1);
    }

    private static void otherWords(Walk walk) {
        walk.says("Other WORDS ahead of that count nothing (a \"dup\" ahead of \"/Subrs\", or not followed by a COUNT, is one of "
                + "these; so is what stands behind LOCALS).");
        fault("a b / /x 12 array RD end begin dict " + REST, 0);
        fault("dup 5 1 RD z " + REST, 0);
        fault("dup /Private 8 dict dup begin " + REST, 0);
        fault("/Subrs 1 array dup x " + REST, 0);
        fault("/Subrs 1 array dup 10000 x " + REST, 0);
        fault("/Subrs 1 array dup " + REST, 0);
        fault("/Subrs 1 array dup dup 0 1 RD z NP " + REST, 0);
        fault("/Subrs 1 array dup 0 1 RD z noaccess put x y def ND " + REST, 0);
        walk.says("40 LETTERS at most.");
        TypeOneFont font = new TypeOneFont().words(BEGIN);
        for (int i = 0; i < 40; i++) {
            font.letter("a" + i, "endchar");
        }
        byte[] forty = font.text();
        CharstringPress press = new CharstringPress();
        Kit.due("40", Kit.read(press, 1, TypeOneFont.wrap(Kit.join(forty, Kit.ascii("end")))), 0);
        Kit.due("40 letters", press.font(1), 40);
        Kit.due("41", Kit.fault(1, TypeOneFont.wrap(Kit.join(forty, Kit.ascii("/b 1 RD z ND end")))), 2);
    }

    private static void programs(Walk walk) {
        walk.says("Each LETTER, LOCAL is PLAIN with the key 4330, its first LENIV bytes left out (all of them, if they are "
                + "fewer).");
        byte[] code = Kit.cipher(Kit.bytes(1, 2, 3, 4, 5, 6), 4330);
        byte[] text = Kit.join(Kit.ascii("/Subrs 1 array dup 0 6 RD "), code, Kit.ascii(" NP " + BEGIN + "/a 6 RD "), code,
                Kit.ascii(" ND /b 3 RD "), Kit.cut(code, 3), Kit.ascii(" ND /c 0 RD  ND end"));
        CharstringPress press = new CharstringPress();
        Kit.due("read", Kit.read(press, 1, TypeOneFont.wrap(text)), 0);
        Kit.due("a letter", Kit.code(press, 0, 0), "0506");
        Kit.due("a local", Kit.code(press, 1, 0), "0506");
        Kit.due("all of three", Kit.code(press, 0, 1), "");
        Kit.due("it is there", press.draw(1, 9), 7);
        Kit.due("of none", press.draw(2, 9), 7);
        Kit.due("read", Kit.read(press, 1, TypeOneFont.wrap(Kit.join(Kit.ascii("/lenIV 9999 "), text))), 0);
        Kit.due("all of six", Kit.code(press, 0, 0), "");
    }

    private static void faults(Walk walk) {
        walk.says("FAULTS, the first WORD or byte along the text: 1 it ends ahead (also without eexec, or with fewer than four "
                + "bytes); 2 it is not as told; 3 there are no LETTERS.");
        String whole = "/lenIV 0 /Subrs 1 array dup 0 1 RD z NP " + BEGIN + "/a 1 RD z ND end";
        for (int n = 0; n < whole.length(); n++) {
            // Within a word that is wanted, the text ends behind another WORD.
            if (whole.charAt(n) == ' ') {
                fault(whole.substring(0, n), 1);
                fault(whole.substring(0, n + 1), 1);
            }
        }
        fault(whole, 0);
        Kit.due("without eexec", Kit.fault(1, Kit.ascii("exec 12345678")), 1);
        fault("/lenIV x /Subrs", 2);
        fault("/Subrs 1 array dup 0 9 RD z", 1);
        fault(BEGIN + "end", 3);
        fault(BEGIN + "end /a 1 RD z ND end", 3);
        fault(BEGIN + "ends", 2);
        fault("/Subrs 300 array " + BEGIN + "end", 2);
        fault(BEGIN, 1);
        fault("words alone", 1);
    }
}
