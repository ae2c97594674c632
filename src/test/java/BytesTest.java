/** Promises 1 to 3 and 12 to 16: a new object, the tape, the two ciphers, and what they bring out. */
public final class BytesTest {
    private static final int NONE = CharstringPress.NONE;

    private BytesTest() {
    }

    public static void main(String[] args) {
        newObject();
        feed();
        end();
        cipher();
        plain();
        wrongKeys();
        back();
        count();
        Kit.close("BytesTest");
    }

    private static void newObject() {
        CharstringPress press = new CharstringPress();
        Kit.due("NONE", CharstringPress.NONE, -1);
        for (int what = -1; what <= 6; what++) {
            Kit.due("font(" + what + ") of a new object", press.font(what), NONE);
            Kit.due("drawn(" + what + ") of a new object", press.drawn(what), NONE);
        }
        for (int sort = -1; sort <= 3; sort++) {
            Kit.due("code of a new object", press.code(sort, 0, 0), NONE);
        }
        Kit.due("draw of a new object", press.draw(0, 10), NONE);
        Kit.due("drawn behind a draw that was none", press.drawn(0), NONE);
        Kit.due("width of a new object", press.width(), 0);
        Kit.due("part of a new object", press.part(0), NONE);
        Kit.due("at of a new object", press.at(0, 0, 0), 0);
        Kit.due("octet of a new object", press.octet(0), NONE);
        Kit.due("count(0) of a new object", press.count(0), 0);
        Kit.due("count(1) of a new object", press.count(1), 0);
        Kit.due("back of a new object", press.back(), 0);
        Kit.due("end(0) of a new object", press.end(0), 0);
    }

    private static void feed() {
        CharstringPress press = new CharstringPress();
        for (int i = 1; i <= 75; i++) {
            Kit.due("feed " + i, press.feed(0x01020304, -1, i, 0x80000000, 0x7fffffff), 20 * i);
        }
        Kit.due("feed beyond 1500", press.feed(1, 2, 3, 4, 5), NONE);
        Kit.due("the tape behind it", press.count(0), 1500);
        Kit.due("end(1481)", press.end(1481), 1481);
        Kit.due("feed to 1501", press.feed(1, 2, 3, 4, 5), NONE);
        Kit.due("end(1480)", press.end(1480), 1480);
        Kit.due("feed to 1500", press.feed(1, 2, 3, 4, 5), 1500);
        press.end(0);
        press.feed(0x01020304, 0xf1f2f3f4, 0x05060708, 0x090a0b0c, 0x0d0e0f10);
        Kit.due("as they are", out(press, plainOf(press)), "01020304f1f2f3f405060708090a0b0c0d0e0f10");
    }

    /** The tape to OUT, as it is: ciphered with a key and back. */
    private static int plainOf(CharstringPress press) {
        press.cipher(4711, 0);
        press.back();
        return press.plain(4711, 0);
    }

    private static String out(CharstringPress press, int n) {
        StringBuilder text = new StringBuilder();
        for (int i = 0; i < n; i++) {
            text.append(String.format("%02x", press.octet(i)));
        }
        Kit.due("octet behind the last", press.octet(n), NONE);
        Kit.due("octet below 0", press.octet(-1), NONE);
        return text.toString();
    }

    private static void end() {
        CharstringPress press = new CharstringPress();
        press.feed(1, 2, 3, 4, 5);
        Kit.due("end(21) of 20", press.end(21), NONE);
        Kit.due("end(-1)", press.end(-1), NONE);
        Kit.due("end of the least", press.end(Integer.MIN_VALUE), NONE);
        Kit.due("nothing happened", press.count(0), 20);
        Kit.due("end(20)", press.end(20), 20);
        Kit.due("end(7)", press.end(7), 7);
        Kit.due("end(8) of 7", press.end(8), NONE);
        Kit.due("feed behind 7", press.feed(0x2a000000, 0, 0, 0, 0), 27);
        Kit.due("end(8)", press.end(8), 8);
        Kit.due("the 8th byte", out(press, plainOf(press)), "000000010000002a");
    }

    private static void cipher() {
        CharstringPress press = new CharstringPress();
        Kit.due("cipher of nothing, 4 ahead", press.cipher(55665, 4), 4);
        Kit.due("the text's key", out(press, 4), "d9d66f63");
        Kit.due("cipher of nothing, 4 ahead", press.cipher(4330, 4), 4);
        Kit.due("the programs' key", out(press, 4), "10bf3170");
        Kit.feed(press, Kit.bytes(0, 0));
        Kit.due("cipher of two, 2 ahead", press.cipher(55665, 2), 4);
        Kit.due("zeros told and zeros ahead", out(press, 4), "d9d66f63");
        Kit.due("the tape is empty then", press.count(0), 0);
        byte[] some = Kit.ascii("some letters, 255: " + (char) 255);
        Kit.feed(press, some);
        Kit.due("cipher, 0 ahead", press.cipher(65535, 0), some.length);
        Kit.due("as told", out(press, some.length), Kit.hex(Kit.cipher(some, 65535)));
        Kit.feed(press, new byte[1500]);
        Kit.due("cipher of 1500 and 8", press.cipher(0, 8), 1508);
        Kit.due("all of them", out(press, 1508), Kit.hex(Kit.cipher(new byte[1508], 0)));
        Kit.due("cipher of none", press.cipher(0, 0), 0);
        Kit.due("OUT is anew", press.octet(0), NONE);
    }

    private static void plain() {
        CharstringPress press = new CharstringPress();
        Kit.feed(press, Kit.bytes(0xd9, 0xd6, 0x6f, 0x63));
        Kit.due("plain, none left out", press.plain(55665, 0), 4);
        Kit.due("zeros", out(press, 4), "00000000");
        byte[] some = Kit.ascii("none of these is left out");
        Kit.feed(press, Kit.cipher(some, 4330));
        Kit.due("plain, 8 left out", press.plain(4330, 8), some.length - 8);
        Kit.due("the rest", out(press, some.length - 8), Kit.hex(some).substring(16));
        Kit.due("the tape is empty then", press.count(0), 0);
        Kit.feed(press, Kit.bytes(1, 2, 3));
        Kit.due("plain, all left out", press.plain(1, 8), 0);
        Kit.due("none", out(press, 0), "");
        Kit.feed(press, Kit.bytes(1, 2, 3));
        Kit.due("plain, just all left out", press.plain(1, 3), 0);
        Kit.due("the tape is empty then", press.count(0), 0);
    }

    private static void wrongKeys() {
        CharstringPress press = new CharstringPress();
        press.cipher(55665, 2);
        press.feed(1, 2, 3, 4, 5);
        int[] keys = {-1, 65536, Integer.MAX_VALUE, Integer.MIN_VALUE, 0, 65535, 0};
        int[] numbers = {0, 0, 0, 0, -1, 9, Integer.MIN_VALUE};
        for (int i = 0; i < keys.length; i++) {
            Kit.due("cipher " + keys[i] + " " + numbers[i], press.cipher(keys[i], numbers[i]), NONE);
            Kit.due("plain " + keys[i] + " " + numbers[i], press.plain(keys[i], numbers[i]), NONE);
        }
        Kit.due("the tape stays", press.count(0), 20);
        Kit.due("OUT stays", out(press, press.count(1)), "d9d6");
        Kit.due("the least key", press.plain(0, 0), 20);
        Kit.due("the greatest key", press.cipher(65535, 8), 8);
    }

    private static void back() {
        CharstringPress press = new CharstringPress();
        press.cipher(55665, 4);
        press.feed(1, 2, 3, 4, 5);
        Kit.due("back", press.back(), 24);
        Kit.due("OUT is empty", press.count(1), 0);
        Kit.due("no octet", press.octet(0), NONE);
        Kit.due("back of none", press.back(), 24);
        Kit.due("behind the tape", out(press, plainOf(press)).substring(40), "d9d66f63");
        press.cipher(55665, 4);
        Kit.feed(press, new byte[1497]);
        Kit.due("back to 1501", press.back(), NONE);
        Kit.due("OUT stays", press.count(1), 4);
        Kit.due("the tape stays", press.count(0), 1497);
        press.end(1496);
        Kit.due("back to 1500", press.back(), 1500);
        press.end(0);
        Kit.feed(press, new byte[1500]);
        press.cipher(1, 8);
        Kit.due("1508 can't come back", press.back(), NONE);
        Kit.due("and stay", press.count(1), 1508);
    }

    private static void count() {
        CharstringPress press = new CharstringPress();
        press.cipher(9, 3);
        press.feed(1, 2, 3, 4, 5);
        Kit.due("bytes of the tape", press.count(0), 20);
        Kit.due("bytes of OUT", press.count(1), 3);
        Kit.due("count(2)", press.count(2), NONE);
        Kit.due("count(-1)", press.count(-1), NONE);
        press.read(0);
        Kit.due("behind a read", press.count(0), 0);
        Kit.due("OUT behind a read", press.count(1), 3);
    }
}
