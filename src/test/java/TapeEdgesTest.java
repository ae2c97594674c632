/** The edges of term I and of promises 1 to 3 and 12 to 16: each sentence that names one, by itself. */
public final class TapeEdgesTest {
    private static final int NONE = CharstringPress.NONE;
    private static final int LEAST = Integer.MIN_VALUE;
    private static final int GREATEST = Integer.MAX_VALUE;

    private TapeEdgesTest() {
    }

    public static void main(String[] args) {
        tapeIsFull();
        feedIsRefusedWhole();
        numbersComeHighestFirst();
        keysTurnRound();
        plainGoesBack();
        newObject();
        endWithin();
        endRefused();
        cipherRefused();
        zerosAhead();
        plainRefused();
        leftOut();
        octets();
        backIsFull();
        backEmptiesOut();
        counts();
        Kit.close("TapeEdgesTest");
    }

    private static CharstringPress tapeOf(int n) {
        CharstringPress press = new CharstringPress();
        Kit.feed(press, new byte[n]);
        Kit.due("a tape of " + n, press.count(0), n);
        return press;
    }

    private static void tapeIsFull() {
        Kit.sentence("The TAPE has at most 1500.");
        CharstringPress press = new CharstringPress();
        for (int i = 1; i <= 75; i++) {
            Kit.due("feed " + i, press.feed(0, 0, 0, 0, 0), 20 * i);
        }
        Kit.due("a full tape", press.count(0), 1500);
        Kit.due("feed beyond", press.feed(0, 0, 0, 0, 0), NONE);
        Kit.due("feed beyond, again", press.feed(-1, -1, -1, -1, -1), NONE);
        Kit.due("still full", press.count(0), 1500);
    }

    private static void feedIsRefusedWhole() {
        Kit.sentence("how many it has; NONE, and none comes: it would have more than 1500.");
        for (int n = 1478; n <= 1500; n++) {
            CharstringPress press = tapeOf(n);
            Kit.due("feed behind " + n, press.feed(-1, -1, -1, -1, -1), n <= 1480 ? n + 20 : NONE);
            Kit.due("the tape then", press.count(0), n <= 1480 ? n + 20 : n);
            press.plain(0, 0);
            press.back();
            Kit.due("as many then", press.count(0), n <= 1480 ? n + 20 : n);
        }
        CharstringPress press = tapeOf(1481);
        press.feed(-1, -1, -1, -1, -1);
        Kit.due("no byte of it came", Kit.tape(press), "00".repeat(1481));
        press = tapeOf(1490);
        press.feed(-1, -1, -1, -1, -1);
        press.end(1480);
        Kit.due("there is room again", press.feed(0, 0, 0, 0, -1), 1500);
        Kit.due("behind the others", Kit.tape(press), "00".repeat(1496) + "ffffffff");
    }

    private static void numbersComeHighestFirst() {
        Kit.sentence("Twenty bytes come behind the TAPE, of each number the highest first");
        CharstringPress press = new CharstringPress();
        press.feed(LEAST, GREATEST, -1, 0, 0x01fe02fd);
        Kit.due("the least, the greatest", Kit.tape(press), "80000000" + "7fffffff" + "ffffffff" + "00000000" + "01fe02fd");
        press = new CharstringPress();
        press.feed(1, 2, 3, 4, 5);
        press.end(3);
        press.feed(6, 7, 8, 9, 10);
        Kit.due("behind what is there", Kit.tape(press), "000000" + "0000000600000007000000080000000900" + "00000a");
    }

    /** Bytes 0 0 0 0 255 255 255 255 by keys whose products go far above 16 bits. */
    private static void keysTurnRound() {
        Kit.sentence("CIPHER with a key R (0 to 65535): each byte p becomes c = p xor (R >> 8); "
                + "then R = (c + R) * 52845 + 22719, its lowest 16 bits.");
        int[] keys = {0, 1, 255, 256, 32767, 32768, 65535, 4330, 55665};
        String[] ciphered = {"0058c94833d163f0", "0027e1506586e1fd", "00f7cde1244ecd21", "01942e6e42c21c98",
            "7f7240dfde62cef9", "800fa00b65a15c1a", "ff284959016301f8", "10bf31700de51a01", "d9d66f63a09dd132"};
        for (int i = 0; i < keys.length; i++) {
            CharstringPress press = new CharstringPress();
            Kit.feed(press, Kit.bytes(0, 0, 0, 0, 255, 255, 255, 255));
            Kit.due("cipher by " + keys[i], press.cipher(keys[i], 0), 8);
            Kit.due("cipher by " + keys[i], Kit.out(press), ciphered[i]);
        }
        Kit.sentence("PLAIN: likewise back (c the byte that is there).");
        String[] plain = {"0058d4205c18ec39", "00276e5ddd509466", "00f7a298caa34b07", "01c53dd54bdbf334",
            "7f0ab9635b60c48c", "80d854a0dc986cb9", "ff8a39e3dbe0440c", "10d888ed2740f206", "d9dbfd59dd0006d6"};
        for (int i = 0; i < keys.length; i++) {
            CharstringPress press = new CharstringPress();
            Kit.feed(press, Kit.bytes(0, 0, 0, 0, 255, 255, 255, 255));
            Kit.due("plain by " + keys[i], press.plain(keys[i], 0), 8);
            Kit.due("plain by " + keys[i], Kit.out(press), plain[i]);
        }
    }

    private static void plainGoesBack() {
        Kit.sentence("PLAIN: likewise back (c the byte that is there).");
        byte[] all = new byte[1500];
        for (int i = 0; i < all.length; i++) {
            all[i] = (byte) (i * 7);
        }
        for (int key = 0; key <= 65535; key += 4369) {
            CharstringPress press = new CharstringPress();
            Kit.feed(press, all);
            press.cipher(key, 0);
            press.back();
            Kit.due("plain of a full tape", press.plain(key, 0), 1500);
            Kit.due("cipher and plain by " + key, Kit.out(press), Kit.hex(all));
        }
    }

    private static void newObject() {
        Kit.sentence("Promise 1: No font.");
        CharstringPress press = new CharstringPress();
        for (int what = 0; what <= 5; what++) {
            Kit.due("font(" + what + ")", press.font(what), NONE);
        }
        Kit.due("no letter", press.draw(0, 400), NONE);
        Kit.due("no code", press.code(0, 0, 0), NONE);
        Kit.due("an empty tape", press.count(0), 0);
        Kit.due("an empty OUT", press.count(1), 0);
        Kit.due("nothing is the same", Kit.state(press), Kit.state(new CharstringPress()));
    }

    private static void endWithin() {
        Kit.sentence("The TAPE has its first n bytes alone: n");
        CharstringPress press = tapeOf(1500);
        int[] ends = {1500, 1499, 21, 20, 1, 1, 0, 0};
        for (int n : ends) {
            Kit.due("end(" + n + ")", press.end(n), n);
            Kit.due("the tape then", press.count(0), n);
        }
        press.feed(0x01020304, 0, 0, 0, 0);
        press.end(3);
        Kit.due("the first alone", Kit.tape(press), "010203");
    }

    private static void endRefused() {
        Kit.sentence("NONE, and nothing happens, if it has not so many, or n is below 0.");
        int[] sizes = {0, 1, 19, 1499, 1500};
        for (int size : sizes) {
            CharstringPress press = tapeOf(size);
            int[] wrong = {size + 1, 1501, -1, -2, LEAST, GREATEST};
            for (int n : wrong) {
                Kit.due("end(" + n + ") of " + size, press.end(n), NONE);
                Kit.due("the tape then", press.count(0), size);
            }
        }
        CharstringPress press = new CharstringPress();
        press.feed(0x01020304, 0, 0, 0, 0);
        press.end(2);
        Kit.due("what was cut off does not come again", press.end(3), NONE);
        Kit.due("nothing happened", Kit.tape(press), "0102");
    }

    /** A press with a font, something drawn, five bytes on the tape, and three in OUT. */
    private static CharstringPress rich() {
        CharstringPress press = new CharstringPress();
        Kit.read(press, 0, CffFont.of("1 2 rmoveto 3 hlineto endchar").local("return").build());
        press.draw(0, 400);
        press.cipher(77, 3);
        Kit.feed(press, Kit.bytes(1, 2, 3, 4, 5));
        return press;
    }

    private static void cipherRefused() {
        Kit.sentence("Promise 12: NONE, and nothing happens, for another key or n.");
        CharstringPress press = rich();
        String ahead = Kit.state(press);
        int[][] wrong = {{-1, 0}, {65536, 0}, {LEAST, 0}, {GREATEST, 0}, {0, -1}, {0, 9}, {65535, LEAST},
            {65535, GREATEST}, {-1, -1}, {65536, 9}};
        for (int[] call : wrong) {
            Kit.due("cipher(" + call[0] + ", " + call[1] + ")", press.cipher(call[0], call[1]), NONE);
            Kit.due("nothing happened", Kit.state(press), ahead);
        }
        Kit.due("nor to the tape's bytes", Kit.tape(press), "0102030405");
        Kit.due("the least key, the least n", rich().cipher(0, 0), 5);
        Kit.due("the greatest key, the greatest n", rich().cipher(65535, 8), 13);
    }

    private static void zerosAhead() {
        Kit.sentence("The TAPE, which is empty then, as CIPHER with a key, n bytes of 0 ahead of it first (n 0 to 8): "
                + "OUT has it: how many bytes");
        for (int n = 0; n <= 8; n++) {
            int[] sizes = {0, 1, 1499, 1500};
            for (int size : sizes) {
                CharstringPress press = tapeOf(size);
                Kit.due("cipher of " + size + " and " + n, press.cipher(55665, n), size + n);
                Kit.due("OUT has them", press.count(1), size + n);
                Kit.due("the tape is empty", press.count(0), 0);
                Kit.due("as told", Kit.out(press), Kit.hex(Kit.cipher(new byte[size + n], 55665)));
                Kit.due("none behind", press.octet(size + n), NONE);
            }
        }
        CharstringPress press = rich();
        Kit.due("OUT has these alone", press.cipher(0, 0), 5);
        Kit.due("the others are gone", press.octet(5), NONE);
    }

    private static void plainRefused() {
        Kit.sentence("Promise 13: likewise (NONE, and nothing happens, for another key or n).");
        CharstringPress press = rich();
        String ahead = Kit.state(press);
        int[][] wrong = {{-1, 0}, {65536, 0}, {LEAST, 0}, {GREATEST, 0}, {0, -1}, {0, 9}, {65535, LEAST},
            {65535, GREATEST}, {-1, -1}, {65536, 9}};
        for (int[] call : wrong) {
            Kit.due("plain(" + call[0] + ", " + call[1] + ")", press.plain(call[0], call[1]), NONE);
            Kit.due("nothing happened", Kit.state(press), ahead);
        }
        Kit.due("nor to the tape's bytes", Kit.tape(press), "0102030405");
        Kit.due("the least key, the least n", rich().plain(0, 0), 5);
        Kit.due("the greatest key, the greatest n", rich().plain(65535, 8), 0);
    }

    private static void leftOut() {
        Kit.sentence("as PLAIN with a key, its first n bytes (0 to 8; all, if they are fewer) left out");
        byte[] nine = Kit.bytes(10, 11, 12, 13, 14, 15, 16, 17, 18);
        for (int n = 0; n <= 8; n++) {
            for (int size = 0; size <= 9; size++) {
                CharstringPress press = new CharstringPress();
                Kit.feed(press, Kit.cipher(Kit.cut(nine, size), 4330));
                int left = Math.max(0, size - n);
                Kit.due("plain of " + size + " without " + n, press.plain(4330, n), left);
                Kit.due("OUT has them", press.count(1), left);
                Kit.due("the rest", Kit.out(press), Kit.hex(Kit.cut(nine, size)).substring(2 * (size - left)));
                Kit.due("the tape is empty", press.count(0), 0);
            }
        }
        CharstringPress press = rich();
        Kit.due("all left out of five", press.plain(0, 8), 0);
        Kit.due("what OUT had is gone", press.octet(0), NONE);
        Kit.due("of a full tape", tapeOf(1500).plain(1, 8), 1492);
    }

    private static void octets() {
        Kit.sentence("Promise 14: Byte i of OUT; NONE.");
        CharstringPress press = new CharstringPress();
        Kit.due("of an empty OUT", press.octet(0), NONE);
        press = tapeOf(1500);
        press.cipher(65535, 8);
        Kit.due("the first", press.octet(0), 255);
        Kit.due("the last", press.octet(1507) >= 0 ? 1 : 0, 1);
        int[] wrong = {1508, 1509, -1, LEAST, GREATEST};
        for (int i : wrong) {
            Kit.due("octet(" + i + ")", press.octet(i), NONE);
        }
        press.cipher(65535, 1);
        Kit.due("one alone", press.octet(0), 255);
        Kit.due("none of the many that were there", press.octet(1), NONE);
    }

    private static void backIsFull() {
        Kit.sentence("NONE, and nothing happens: it would have more than 1500.");
        for (int out = 0; out <= 8; out++) {
            for (int size = 1490; size <= 1500; size++) {
                CharstringPress press = new CharstringPress();
                press.cipher(9, out);
                Kit.feed(press, new byte[size]);
                boolean fits = size + out <= 1500;
                Kit.due("back of " + out + " behind " + size, press.back(), fits ? size + out : NONE);
                Kit.due("the tape then", press.count(0), fits ? size + out : size);
                Kit.due("OUT then", press.count(1), fits ? 0 : out);
            }
        }
        CharstringPress press = tapeOf(1500);
        press.cipher(9, 1);
        Kit.due("1501 to an empty tape", press.back(), NONE);
        Kit.due("OUT stays", press.count(1), 1501);
        Kit.due("the tape stays", press.count(0), 0);
        press = tapeOf(1500);
        press.cipher(9, 0);
        Kit.due("1500 to an empty tape", press.back(), 1500);
    }

    private static void backEmptiesOut() {
        Kit.sentence("OUT's bytes come behind the TAPE, and OUT is empty then: how many the TAPE has");
        CharstringPress press = new CharstringPress();
        Kit.due("none behind none", press.back(), 0);
        press.cipher(55665, 4);
        Kit.due("four behind none", press.back(), 4);
        Kit.due("OUT is empty", press.count(1), 0);
        Kit.due("no octet", press.octet(0), NONE);
        Kit.due("none behind four", press.back(), 4);
        press.feed(0, 0, 0, 0, 0);
        Kit.due("what came stands ahead", Kit.tape(press), "d9d66f63" + "00".repeat(20));
    }

    private static void counts() {
        Kit.sentence("Promise 16: NONE for another what.");
        CharstringPress press = rich();
        Kit.due("of the tape", press.count(0), 5);
        Kit.due("of OUT", press.count(1), 3);
        int[] wrong = {-1, 2, 3, LEAST, GREATEST};
        for (int what : wrong) {
            Kit.due("count(" + what + ")", press.count(what), NONE);
        }
    }
}
