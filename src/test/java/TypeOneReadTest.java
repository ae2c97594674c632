/** Promises 4 to 6 of Type 1: what is read, and what is refused. */
public final class TypeOneReadTest {
    private static final int NONE = CharstringPress.NONE;

    private TypeOneReadTest() {
    }

    public static void main(String[] args) {
        ordinary();
        digits();
        eexec();
        counts();
        lenIV();
        locals();
        letters();
        ends();
        Kit.close("TypeOneReadTest");
    }

    private static int fault(String text) {
        return Kit.fault(1, TypeOneFont.wrap(text));
    }

    private static void ordinary() {
        CharstringPress press = new CharstringPress();
        TypeOneFont font = new TypeOneFont().words("dup /Private 8 dict dup begin\n/RD {string} def\n/Subrs 5 array\n");
        font.local(0, "3 0 callothersubr return").local(3, "return").local(4, "").local(3, "7 return").words("ND\n");
        font.begin().letter(".notdef", "0 500 hsbw endchar").letter("a", "").words("end\nend\nreadonly put");
        Kit.due("read", Kit.read(press, 1, font.build()), 0);
        Kit.due("the tape is empty then", press.count(0), 0);
        long[] answers = {1, 2, 5, 0, 0, 0, NONE};
        for (int what = 0; what < 7; what++) {
            Kit.due("font(" + what + ")", press.font(what), answers[what]);
        }
        Kit.due("letter 0", Kit.code(press, 0, 0), "8bf888" + "0d0e");
        Kit.due("letter 1", Kit.code(press, 0, 1), "");
        Kit.due("local 0", Kit.code(press, 1, 0), "8e8b0c100b");
        Kit.due("local 1, not told", press.code(1, 1, 0), NONE);
        Kit.due("local 3, told anew", Kit.code(press, 1, 3), "920b");
        Kit.due("local 4, of no bytes", press.code(1, 4, 0), NONE);
        Kit.due("no global", press.code(2, 0, 0), NONE);
        Kit.due("no letter 2", press.code(0, 2, 0), NONE);
        CffFont other = CffFont.of("endchar").global("return");
        Kit.due("a font of CFF", Kit.read(press, 0, other.build()), 0);
        Kit.due("a font of Type 1", Kit.read(press, 1, TypeOneFont.of("endchar").build()), 0);
        Kit.due("has no globals", press.font(3), 0);
        Kit.due("has no locals", press.font(2), 0);
    }

    private static void digits() {
        CharstringPress press = new CharstringPress();
        byte[] text = TypeOneFont.of("1 2 hsbw endchar").words(" ").text();
        byte[] told = TypeOneFont.digits(text);
        byte[] head = Kit.ascii("eexec ");
        Kit.due("by digits", Kit.read(press, 1, Kit.join(head, told)), 0);
        Kit.due("letter 0", Kit.code(press, 0, 0), "8c8d0d0e");
        Kit.due("a digit more", Kit.fault(1, Kit.join(head, told, Kit.ascii("a"))), 2);
        Kit.due("two digits more", Kit.fault(1, Kit.join(head, told, Kit.ascii(" a\nF\r\t"))), 0);
        Kit.due("another byte", Kit.fault(1, Kit.join(head, told, Kit.ascii("g0"))), 2);
        Kit.due("another byte", Kit.fault(1, Kit.join(head, told, Kit.bytes(0))), 2);
        Kit.due("fewer than four bytes of digits", Kit.fault(1, Kit.ascii("eexec 012345")), 1);
        Kit.due("four digits, then another", Kit.fault(1, Kit.ascii("eexec abcdg")), 2);
        Kit.due("five digits", Kit.fault(1, Kit.ascii("eexec abcde")), 2);
        byte[] open = Kit.ascii("/CharStrings 1 dict dup begin /a 1 RD z ND ");
        Kit.due("nothing behind the last digit", Kit.fault(1, Kit.join(head, TypeOneFont.digits(open))), 1);
        Kit.due("a blank ahead: as they stand", Kit.fault(1, Kit.join(head, Kit.ascii(" "), told)), 1);
    }

    private static void eexec() {
        byte[] body = Kit.cipher(Kit.join(new byte[4], TypeOneFont.of("endchar").text()), 55665);
        int[] blanks = {9, 10, 13, 32};
        for (int blank : blanks) {
            Kit.due("eexec and " + blank, Kit.fault(1, Kit.join(Kit.ascii("eexec"), Kit.bytes(blank), body)), 0);
        }
        Kit.due("eexec and 0", Kit.fault(1, Kit.join(Kit.ascii("eexec"), Kit.bytes(0), body)), 1);
        Kit.due("the first eexec with a blank", Kit.fault(1, Kit.join(Kit.ascii("eexeceexec!eeexec "), body)), 0);
        Kit.due("the first eexec counts", Kit.fault(1, Kit.join(Kit.ascii("eexec eexec "), body)), 1);
        Kit.due("no eexec", Kit.fault(1, Kit.ascii("exec eexe")), 1);
        Kit.due("no eexec, but a word like it", Kit.fault(1, Kit.join(Kit.ascii("fexec eexed eexeC "), body)), 1);
        Kit.due("eexec at the end", Kit.fault(1, Kit.ascii("eexec")), 1);
        Kit.due("nothing behind", Kit.fault(1, Kit.ascii("eexec ")), 1);
        Kit.due("three bytes behind", Kit.fault(1, Kit.ascii("eexec abc")), 1);
        Kit.due("an empty text", fault(""), 1);
        Kit.due("an empty tape", new CharstringPress().read(1), 1);
    }

    private static void counts() {
        Kit.due("no count", fault("/CharStrings x "), 2);
        Kit.due("no digits alone", fault("/CharStrings 1x dict"), 2);
        Kit.due("a sign", fault("/CharStrings +1 dict"), 2);
        Kit.due("below 10000", fault("/CharStrings 9999 dict dup begin end"), 3);
        Kit.due("10000", fault("/CharStrings 10000 dict dup begin end"), 2);
        Kit.due("far above", fault("/CharStrings 99999999999999999999 dict dup begin end"), 2);
        Kit.due("zeros ahead", fault("/CharStrings 00000000000000001 dict dup begin end"), 3);
    }

    private static void lenIV() {
        for (int n = 0; n <= 8; n++) {
            CharstringPress press = new CharstringPress();
            TypeOneFont font = new TypeOneFont().lenIV(n).words("/Subrs 1 array ").local(0, "3 return");
            Kit.due("lenIV " + n, Kit.read(press, 1, font.begin().letter("a", "5 endchar").words("end").build()), 0);
            Kit.due("letter", Kit.code(press, 0, 0), "900e");
            Kit.due("local", Kit.code(press, 1, 0), "8e0b");
        }
        CharstringPress press = new CharstringPress();
        TypeOneFont font = new TypeOneFont().words("/lenIV 9999 /lenIV 3 /CharStrings 1 dict dup begin /a 2 RD ab x end");
        Kit.due("fewer bytes", Kit.read(press, 1, font.build()), 0);
        Kit.due("all left out", press.code(0, 0, 0), NONE);
        Kit.due("the letter is there", press.font(1), 1);
        Kit.due("lenIV 10000", fault("/lenIV 10000 N"), 2);
        Kit.due("lenIV of no count", fault("/lenIV -1 "), 2);
        Kit.due("lenIV, and no more", fault("/lenIV "), 1);
    }

    private static void locals() {
        Kit.due("200", fault("/Subrs 200 array "), 1);
        Kit.due("201", fault("/Subrs 201 array "), 2);
        Kit.due("no count", fault("/Subrs x array "), 2);
        Kit.due("no array", fault("/Subrs 2 arry "), 2);
        Kit.due("ends ahead of array", fault("/Subrs 2 "), 1);
        Kit.due("a local above", fault("/Subrs 2 array dup 2 1 RD x NP "), 2);
        Kit.due("none of none", fault("/Subrs 0 array dup 0 1 RD x NP "), 2);
        Kit.due("no second count", fault("/Subrs 2 array dup 1 x RD x NP "), 2);
        Kit.due("no RD", fault("/Subrs 2 array dup 1 1 RX x NP "), 2);
        Kit.due("too few bytes", fault("/Subrs 2 array dup 1 9 RD x"), 1);
        Kit.due("no blank", fault("/Subrs 2 array dup 1 0 RD"), 1);
        Kit.due("dup at the end", fault("/Subrs 2 array dup"), 1);
        Kit.due("dup without a count", fault("/Subrs 1 array dup x /CharStrings 0 dict dup begin /a 1 RD z ND end"), 0);
        Kit.due("dup, then /CharStrings", fault("/Subrs 1 array dup /CharStrings 0 dict dup begin /a 1 RD z ND end"), 0);
        Kit.due("dup, then dup", fault("/Subrs 1 array dup dup 1 1 RD x"), 2);
        Kit.due("dup and 10000", fault("/Subrs 1 array dup 10000 /CharStrings 0 dict dup begin end"), 3);
        Kit.due("dup ahead of /Subrs", fault("dup 5 /Subrs 1 array /CharStrings 0 dict dup begin end"), 3);
        Kit.due("dup at once behind a local", fault("/Subrs 2 array dup 0 1 RD xdup 2 1 RD y NP "), 2);
        CharstringPress press = new CharstringPress();
        Kit.due("a font with locals", Kit.read(press, 1, TypeOneFont.wrap("/Subrs 2 array /CharStrings 1 dict dup begin "
                + "/a 1 RD z ND end")), 0);
        Kit.due("dup ahead of /Subrs in the next", Kit.read(press, 1, TypeOneFont.wrap("dup 5 x /CharStrings 1 dict dup "
                + "begin /a 1 RD z ND end")), 0);
        TypeOneFont font = new TypeOneFont().words("/Subrs 3 array ").local(0, "1 return").local(2, "2 return");
        font.words("/Subrs 2 array ").local(1, "3 return").begin().letter("a", "endchar").words("end ");
        Kit.due("told again", Kit.read(press, 1, font.build()), 0);
        Kit.due("anew: how many", press.font(2), 2);
        Kit.due("anew: not told", press.code(1, 0, 0), NONE);
        Kit.due("anew: told", Kit.code(press, 1, 1), "8e0b");
    }

    private static void letters() {
        String head = "/CharStrings 1 dict dup begin ";
        Kit.due("none", fault(head + "end"), 3);
        Kit.due("none, more behind", fault(head + "end /a 1 RD z ND end"), 3);
        Kit.due("one", fault(head + "/a 1 RD z ND end"), 0);
        Kit.due("by -|", fault(head + "/a 1 -| z ND end"), 0);
        Kit.due("by another", fault(head + "/a 1 XX z ND end"), 2);
        Kit.due("no name", fault(head + "a 1 RD z ND end"), 2);
        Kit.due("a word like end", fault(head + "/a 1 RD z ND xnd"), 2);
        Kit.due("a word like end", fault(head + "/a 1 RD z ND ende"), 2);
        Kit.due("an empty name", fault(head + "/ 1 RD z ND end"), 2);
        Kit.due("no count", fault(head + "/a RD z ND end"), 2);
        Kit.due("no word behind", fault(head + "/a 1 RD z end"), 1);
        Kit.due("end as the word behind", fault(head + "/a 1 RD z end end"), 0);
        Kit.due("a word at once behind", fault(head + "/a 1 RD zND end"), 0);
        Kit.due("two words behind", fault(head + "/a 1 RD zz ND end"), 2);
        Kit.due("of no bytes", fault(head + "/a 0 RD  ND end"), 0);
        Kit.due("blanks among the bytes", fault(head + "/a 3 RD    ND end"), 0);
        Kit.due("without dup", fault("/CharStrings 1 dict begin"), 2);
        Kit.due("without dict", fault("/CharStrings 1 dup begin"), 2);
        Kit.due("without begin", fault("/CharStrings 1 dict dup /a 1 RD z ND end"), 2);
        StringBuilder forty = new StringBuilder(head);
        for (int i = 0; i < 40; i++) {
            forty.append("/a 1 RD z ND ");
        }
        Kit.due("40", fault(forty + "end"), 0);
        Kit.due("41", fault(forty + "/a 1 RD z ND end"), 2);
        Kit.due("end ahead of the letters is a word", fault("end /CharStrings 1 dict dup begin /a 1 RD z ND end"), 0);
    }

    private static void ends() {
        String text = "/lenIV 1 /Subrs 2 array dup 1 1 RD x NP /CharStrings 1 dict dup begin /a 1 RD z ND end";
        for (int n = 0; n < text.length(); n++) {
            Kit.due("only " + text.substring(0, n), fault(text.substring(0, n)), 1 + endsInAWord(text, n));
        }
        Kit.due("all of it", fault(text), 0);
        Kit.due("words alone", fault("x y "), 1);
    }

    /** 1 where what is left of a word that is wanted is another word: not as told. */
    private static int endsInAWord(String text, int n) {
        int from = text.lastIndexOf(' ', n - 1) + 1;
        String left = text.substring(from, n);
        String[] wanted = {"array", "RD", "dict", "dup", "begin", "end", "/a"};
        int behindLocals = text.indexOf("/CharStrings");
        for (String word : wanted) {
            boolean part = !left.isEmpty() && word.startsWith(left) && !word.equals(left) && text.startsWith(word, from);
            boolean local = from < behindLocals && word.equals("dup");
            if (part && !local) {
                return 1;
            }
        }
        return 0;
    }
}
