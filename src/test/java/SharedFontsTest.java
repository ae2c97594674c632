/** Fonts that the shared test feeds, read and drawn here as well. */
public final class SharedFontsTest {
    private static final String HEAD = "0100040100010101024100010101121d00000024111d000000001d000000";

    private SharedFontsTest() {
    }

    public static void main(String[] args) {
        outlines();
        faults();
        sums();
        flexes();
        readFaults();
        typeOneLetters();
        typeOneByDigits();
        typeOneReadFaults();
        Kit.close("SharedFontsTest");
    }

    private static byte[] hex(String digits) {
        byte[] row = new byte[digits.length() / 2];
        for (int i = 0; i < row.length; i++) {
            row[i] = (byte) Integer.parseInt(digits.substring(2 * i, 2 * i + 2), 16);
        }
        return row;
    }

    private static CharstringPress press(String digits, int letters) {
        CharstringPress press = new CharstringPress();
        Kit.due("read", Kit.read(press, 0, hex(digits)), 0);
        Kit.due("letters", press.font(1), letters);
        return press;
    }

    private static void outlines() {
        CharstringPress press = press("0100040100010101024100010101121d0000002a111d0000000c1d0000009b12000000010101048d"
                + "040b000901010a1936515d5f626365eff75c15bd06c7070e95168c8d8e8f058c8d8e068f90070e92"
                + "90048c8d8e8f9091088c8d8e8f90919293188c8d8c8d8e8f9091190e948c8d8e8f1a8c8d8e8f1b8c"
                + "8d8e8f901f8c8d8e8f8c8d8e8f1e0e9fa9128c8d8e8f13a090160e200a201d0e0e900ef88814f8ec"
                + "151d0000000c1300020101070a8e8f15210a0b93060e", 9);
        Kit.due("locals", press.font(2), 2);
        Kit.due("globals", press.font(3), 1);
        Kit.due("default", press.font(4), 500);
        Kit.due("nominal", press.font(5), 600);
        String[] outlines = {"M 100 200 L 150 200 L 150 260 Z",
            "M 10 0 L 11 2 L 14 6 L 15 6 L 15 8 L 18 8 L 18 12 L 23 12 Z",
            "M 0 5 C 1 7 4 11 9 17 C 10 19 13 23 18 29 L 25 37 L 26 39 C 27 41 30 45 35 51 Z",
            "C 9 1 11 4 11 8 C 12 8 14 11 18 11 C 19 11 21 14 26 18 C 26 19 28 22 32 22 C 33 22 35 25 35 29 Z",
            "M 5 0", "M 3 4 L 11 4 Z", "M 0 2", "", ""};
        String[] came = {"parts 4 steps 4 hints 0 bytes 9 width 500", "parts 9 steps 5 hints 0 bytes 15 width 500",
            "parts 7 steps 5 hints 0 bytes 29 width 607", "parts 6 steps 5 hints 0 bytes 27 width 500",
            "parts 1 steps 4 hints 3 bytes 12 width 500", "parts 3 steps 5 hints 0 bytes 3 width 500",
            "parts 1 steps 4 hints 0 bytes 3 width 500", "parts 0 steps 1 hints 0 bytes 1 width 500",
            "parts 0 steps 1 hints 0 bytes 2 width 605"};
        for (int k = 0; k < outlines.length; k++) {
            Kit.due("letter " + k, Kit.came(press, press.draw(k, 400)), "fault 0 " + came[k]);
            Kit.due("outline " + k, Kit.outline(press), outlines[k]);
        }
    }

    private static void faults() {
        CharstringPress press = press("0100040100010101024100010101121d0000002a111d000000001d000000f11200000001010104"
                + "201d0b0019010103080c0d0f10417173747678797d8184888c8e93989aa0a6ab8c158c8d8e8f158c8d"
                + "8e05000c280b" + "8c".repeat(49) + "8c".repeat(48) + "900a0a201d1c010c8c8d01138c8b0c0c8a"
                + "0c1a8cab0c148c900c1d0c178c8e8c0c1e8c8a8c0c1e8c018c8d8e8f90088c8c0c0a0c0a8c8d8e0c16", 25);
        int[] due = {2, 2, 2, 1, 1, 1, 3, 7, 4, 2, 5, 7, 7, 7, 9, 9, 9, 9, 1, 2, 9, 2, 2, 2, 2};
        for (int k = 0; k < due.length; k++) {
            Kit.due("letter " + k + " (" + Kit.code(press, 0, k) + ")", press.draw(k, 400), due[k]);
        }
    }

    private static void sums() {
        CharstringPress press = press(HEAD + "d4120000000000140101"
                + "070d13181f252a30363e464f565e6c79868c9199928d0c0c160e848d0c0c160e8e8f0c18160e940c"
                + "1a160e8d0c0e0c09160e90900c0f160e8b0c05160e8e8b0c03160e8e8b0c04160e8c8d8e8f0c1616"
                + "0e8c8d8f8e0c16160e918e0c148e0c15160e920c1b0c0a160e92930c1c0c0b160e9091928d0c1d0c"
                + "0b0c0a0c0a160e8c8d8e8e8c0c1e0c0b0c0b160e8c8d8e8e8a0c1e0c0b0c0b160e8c8d0c12160e8e"
                + "0c15160e1c75308d0c18160e", 20);
        String[] due = {"3+32768", "-4+32768", "12", "3", "2", "1", "1", "0", "1", "1", "2", "6", "14", "1", "13", "4",
            "0", "1", "0", "-5536"};
        for (int k = 0; k < due.length; k++) {
            Kit.due("letter " + k + " (" + Kit.code(press, 0, k) + ")", press.draw(k, 400), 0);
            Kit.due("its x", Kit.fixed(press.at(0, 0, 0)), due[k]);
        }
    }

    private static void flexes() {
        CharstringPress press = press(HEAD + "6f120000000000050101111b2735438c8d8e8f9091929394959697bd0c23"
                + "0e8c8d8e8f9091920c220e8c8d8e8f90919293940c240e8c8d8e8f909192939495960c250e958d8e"
                + "8f90919293948c960c250e", 5);
        String[] due = {"C 1 2 4 6 9 12 C 16 20 25 30 36 42 Z", "C 1 0 3 3 7 3 C 12 3 18 0 25 0 Z",
            "C 1 2 4 6 9 6 C 15 6 22 14 31 0 Z", "C 1 2 4 6 9 12 C 16 20 25 30 0 41 Z",
            "C 10 2 13 6 18 12 C 25 20 34 21 45 0 Z"};
        for (int k = 0; k < due.length; k++) {
            Kit.due("letter " + k, press.draw(k, 400), 0);
            Kit.due("its outline", Kit.outline(press), due[k]);
        }
    }

    private static void readFaults() {
        String head = "01000401000101010241000101010";
        String[] fonts = {HEAD + "2a120000000000010101020e", HEAD + "2a1200000000000101010200".substring(0, 22),
            head + "c1d0000001e1d0000001e110000000000010101020e", head + "81d0000001a118b0000000000010101020e",
            head + "71dffffffff110000000000010101020e", head + "a1d0000001c118c0c060000000000010101020e",
            head + "a1d0000001c118d0c060000000000010101020e", head + "b1e123f101d0000001d110000000000010101020e",
            head + "c1e12d30f101d0000001e110000000000010101020e", head + "a1e12111d0000001c110000000000010101020e",
            head + "8161d0000001a110000000000010101020e", head + "d1d0000270f111d0000001f110000000000010101020e"};
        int[] due = {0, 1, 2, 2, 1, 2, 0, 0, 2, 2, 2, 0};
        for (int i = 0; i < fonts.length; i++) {
            Kit.due("font " + i, Kit.fault(0, hex(fonts[i])), due[i]);
        }
    }

    private static void typeOneLetters() {
        TypeOneFont font = new TypeOneFont().words("/Subrs 4 array\n").local(3, "9 vmoveto return");
        font.words("/CharStrings 16 dict dup begin\n");
        String[] programs = {"95f8880d9fa91590069107090e", "8bef0d959f158b8c0c10908b158b8d0c108c8c158b8d0c108d8d158b8d0c10"
                + "8e8e158b8d0c108c168b8d0c108d8a158b8d0c108e86158b8d0c10bda69f8e8b0c100c110c110c21090e",
            "8c8d8e8f0c078f908d940c100c110c11058c8d8e8f1e8c8d8e8f1f0e", "8b8b0d928c8e0c100c110a0e",
            "928d0c0c8b0d0c008c8d018c8d8e8f90910c020c010e", "8c0e", "0c11", "8b8d0c10", "8c8d0c06", "1c0101", "8b0a", "900a",
            "8c8a900c10", "8c8e900c10", "8c".repeat(25), "09"};
        for (int i = 0; i < programs.length; i++) {
            font.letter("g" + i, hex(programs[i]));
        }
        CharstringPress press = new CharstringPress();
        Kit.due("read", Kit.read(press, 1, font.words("end").build()), 0);
        String[] outlines = {"M 30 30 L 35 30 L 35 36 Z", "M 10 20 C 16 21 18 23 21 26 C 22 26 24 25 27 20 Z",
            "L 6 6 C 6 7 8 10 12 10 C 13 10 15 13 15 17", "M 0 9", "", "", "", "", "", "", "", "", "", "", "", "Z"};
        String[] came = {"0 parts 4 steps 6 hints 0 bytes 13 width 500", "0 parts 4 steps 23 hints 0 bytes 73 width 100",
            "0 parts 3 steps 8 hints 0 bytes 28 width 3", "0 parts 1 steps 7 hints 0 bytes 12 width 0",
            "2 parts 0 steps 5 hints 0 bytes 21 width 0", "2 parts 0 steps 0 hints 0 bytes 2 width 0",
            "9 parts 0 steps 0 hints 0 bytes 2 width 0", "9 parts 0 steps 0 hints 0 bytes 4 width 0",
            "1 parts 0 steps 0 hints 0 bytes 4 width 0", "1 parts 0 steps 0 hints 0 bytes 1 width 0",
            "4 parts 0 steps 0 hints 0 bytes 2 width 0", "4 parts 0 steps 0 hints 0 bytes 2 width 0",
            "9 parts 0 steps 0 hints 0 bytes 5 width 0", "2 parts 0 steps 0 hints 0 bytes 5 width 0",
            "3 parts 0 steps 0 hints 0 bytes 25 width 0", "7 parts 1 steps 1 hints 0 bytes 1 width 0"};
        for (int k = 0; k < outlines.length; k++) {
            Kit.due("letter " + k, Kit.came(press, press.draw(k, 400)), "fault " + came[k]);
            Kit.due("outline " + k, Kit.outline(press), outlines[k]);
        }
    }

    private static void typeOneByDigits() {
        CharstringPress press = new CharstringPress();
        String font = "%!PS\ncurrentfile eexec\nd8054da85e5f6e8106e6d17456152c7752d061be\n4e8689954c1918b308fd16e37558cad5d5338f"
                + "ec\n59e46dd6868cabfa0dbffbcf887617e28d8c101e\nb1a713c1d0b00d";
        Kit.due("by digits", Kit.read(press, 1, Kit.ascii(font)), 0);
        Kit.due("its letter", Kit.code(press, 0, 0), "8e940d0e");
        Kit.due("no eexec", Kit.fault(1, Kit.ascii("exec eexe")), 1);
        Kit.due("three bytes", Kit.fault(1, Kit.ascii("eexec abc")), 1);
        Kit.due("another byte", Kit.fault(1, Kit.ascii("eexec abcdg")), 2);
        Kit.due("five digits", Kit.fault(1, Kit.ascii("eexec abcde")), 2);
    }

    private static void typeOneReadFaults() {
        String[] texts = {"x y", "/CharStrings 1 dict dup begin end", "/CharStrings 1 dict begin", "/CharStrings x",
            "/lenIV 10000 N", "/Subrs 201 array ", "/Subrs 2 arry ", "/Subrs 2 array dup 2 1 RD x NP ",
            "/Subrs 2 array dup 1 9 RD x", "dup 5 /Subrs 1 array dup x /CharStrings 0 dict dup begin /a 1 RD zz ND end",
            "dup 5 /Subrs 1 array dup x /CharStrings 0 dict dup begin /a 1 RD z ND end",
            "/CharStrings 0 dict dup begin /a 1 XX z", "/CharStrings 0 dict dup begin a 1 RD z",
            "/CharStrings 0 dict dup begin /a 1 RD z"};
        int[] due = {1, 3, 2, 2, 2, 2, 2, 2, 1, 2, 0, 2, 2, 1};
        for (int i = 0; i < texts.length; i++) {
            Kit.due(texts[i], Kit.fault(1, TypeOneFont.wrap(texts[i])), due[i]);
        }
    }
}
