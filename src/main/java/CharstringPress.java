import java.util.Arrays;

/**
 * A press for letters told as programs: fonts of two families (the Compact Font Format, and Type 1)
 * are read from bytes, and each letter's program is run to an outline of lines and curves.
 */
public final class CharstringPress {
    public static final int NONE = -1;

    private static final int CFF = 0;
    private static final int TYPE_ONE = 1;
    private static final int TAPE_MOST = 1500;
    private static final int FEED_BYTES = 20;
    private static final int AHEAD_MOST = 8;
    private static final int KEY_MOST = 65535;
    private static final int LETTERS_MOST = 40;

    /** Of Type 1; an INDEX may have more. */
    private static final int LOCALS_MOST = 200;

    private static final int LIMIT_MOST = 400;
    private static final int PILE_MOST_CFF = 48;
    private static final int PILE_MOST_TYPE_ONE = 24;

    /** What FIXED numbers call one. */
    private static final long ONE = 65536L;

    private final Octets tape;
    private final Octets out;
    private Font font;
    private Font spare;
    private final CffReader cffReader;
    private final TypeOneReader typeOneReader;
    private final Outline outline;
    private final CffMachine cffMachine;
    private final TypeOneMachine typeOneMachine;

    /** The machine of the latest draw; null ahead of any. */
    private Machine latest;

    public CharstringPress() {
        tape = new Octets(TAPE_MOST);
        out = new Octets(TAPE_MOST + AHEAD_MOST);
        font = new Font();
        spare = new Font();
        cffReader = new CffReader();
        typeOneReader = new TypeOneReader();
        outline = new Outline();
        Pile pile = new Pile();
        cffMachine = new CffMachine(pile, outline);
        typeOneMachine = new TypeOneMachine(pile, outline);
        latest = null;
    }

    public int feed(int a, int b, int c, int d, int e) {
        if (tape.size() + FEED_BYTES > TAPE_MOST) {
            return NONE;
        }
        tape.addWord(a);
        tape.addWord(b);
        tape.addWord(c);
        tape.addWord(d);
        tape.addWord(e);
        return tape.size();
    }

    public int end(int n) {
        if (n < 0 || n > tape.size()) {
            return NONE;
        }
        tape.cut(n);
        return n;
    }

    public int read(int family) {
        if (family != CFF && family != TYPE_ONE) {
            return NONE;
        }
        int fault = family == CFF ? cffReader.parse(tape, spare) : typeOneReader.parse(tape, spare);
        tape.cut(0);
        if (fault == 0) {
            Font former = font;
            font = spare;
            spare = former;
        }
        return fault;
    }

    public int font(int what) {
        if (font.family == NONE) {
            return NONE;
        }
        switch (what) {
            case 0:
                return font.family;
            case 1:
                return font.letters.size();
            case 2:
                return font.locals.size();
            case 3:
                return font.globals.size();
            case 4:
                return font.defaultWidth;
            case 5:
                return font.nominalWidth;
            default:
                return NONE;
        }
    }

    public int code(int sort, int k, int i) {
        Shelf shelf = font.shelfOf(sort);
        if (shelf == null || !shelf.has(k) || i < 0 || i >= shelf.finishOf(k) - shelf.beginOf(k)) {
            return NONE;
        }
        return font.store.get(shelf.beginOf(k) + i);
    }

    public int draw(int k, int limit) {
        if (!font.letters.has(k) || limit < 0 || limit > LIMIT_MOST) {
            return NONE;
        }
        outline.begin(limit);
        if (font.family == CFF) {
            latest = cffMachine;
        } else {
            latest = typeOneMachine;
        }
        return latest.run(font, k);
    }

    public int drawn(int what) {
        if (latest == null) {
            return NONE;
        }
        switch (what) {
            case 0:
                return outline.size();
            case 1:
                return latest.steps;
            case 2:
                return latest.hints;
            case 3:
                return latest.bytesDone();
            default:
                return NONE;
        }
    }

    public long width() {
        return latest == null ? 0 : latest.width;
    }

    public int part(int i) {
        return outline.kindOf(i);
    }

    public long at(int i, int k, int way) {
        return outline.pointOf(i, k, way);
    }

    public int cipher(int key, int n) {
        if (!isKeyAndNumber(key, n)) {
            return NONE;
        }
        out.cut(0);
        for (int i = 0; i < n; i++) {
            out.add(0);
        }
        out.addAll(tape, 0);
        out.encipher(key);
        tape.cut(0);
        return out.size();
    }

    public int plain(int key, int n) {
        if (!isKeyAndNumber(key, n)) {
            return NONE;
        }
        tape.decipher(key, 0, tape.size());
        out.cut(0);
        out.addAll(tape, n);
        tape.cut(0);
        return out.size();
    }

    private static boolean isKeyAndNumber(int key, int n) {
        return key >= 0 && key <= KEY_MOST && n >= 0 && n <= AHEAD_MOST;
    }

    public int octet(int i) {
        return out.get(i);
    }

    public int back() {
        if (tape.size() + out.size() > TAPE_MOST) {
            return NONE;
        }
        tape.addAll(out, 0);
        out.cut(0);
        return tape.size();
    }

    public int count(int what) {
        switch (what) {
            case 0:
                return tape.size();
            case 1:
                return out.size();
            default:
                return NONE;
        }
    }

    /** How many bytes stand behind the first one of a number. */
    private static int bytesBehind(int first) {
        if (first == 28) {
            return 2;
        }
        if (first == 29 || first == 255) {
            return 4;
        }
        return first >= 247 ? 1 : 0;
    }

    /** The whole number that a first byte (none of 255) and those behind it tell. */
    private static int wholeNumber(int first, int behind) {
        if (first == 28) {
            return (short) behind;
        }
        if (first == 29) {
            return behind;
        }
        if (first <= 246) {
            return first - 139;
        }
        if (first <= 250) {
            return (first - 247) * 256 + behind + 108;
        }
        return -(first - 251) * 256 - behind - 108;
    }

    private static boolean isBlank(int octet) {
        return octet == 9 || octet == 10 || octet == 13 || octet == 32;
    }

    /** The value of a hexadecimal digit, or NONE. */
    private static int digitOf(int octet) {
        if (octet >= '0' && octet <= '9') {
            return octet - '0';
        }
        if (octet >= 'a' && octet <= 'f') {
            return octet - 'a' + 10;
        }
        if (octet >= 'A' && octet <= 'F') {
            return octet - 'A' + 10;
        }
        return NONE;
    }

    /** Bytes in a row, as many at most as it was made for. */
    private static final class Octets {
        private static final int FACTOR = 52845;
        private static final int TERM = 22719;

        private final byte[] row;
        private int length;

        Octets(int most) {
            row = new byte[most];
            length = 0;
        }

        int size() {
            return length;
        }

        int get(long i) {
            return i >= 0 && i < length ? row[(int) i] & 255 : NONE;
        }

        void add(int octet) {
            if (length < row.length) {
                row[length] = (byte) octet;
                length++;
            }
        }

        void addWord(int word) {
            add(word >> 24);
            add(word >> 16);
            add(word >> 8);
            add(word);
        }

        void addAll(Octets other, int from) {
            for (int i = Math.max(from, 0); i < other.length; i++) {
                add(other.get(i));
            }
        }

        void cut(int n) {
            if (n >= 0 && n <= length) {
                length = n;
            }
        }

        void encipher(int key) {
            int turning = key;
            for (int i = 0; i < length; i++) {
                int ciphered = (row[i] & 255) ^ (turning >> 8);
                row[i] = (byte) ciphered;
                turning = nextKey(ciphered, turning);
            }
        }

        void decipher(int key, int from, int to) {
            int turning = key;
            for (int i = Math.max(from, 0); i < to && i < length; i++) {
                int ciphered = row[i] & 255;
                row[i] = (byte) (ciphered ^ (turning >> 8));
                turning = nextKey(ciphered, turning);
            }
        }

        private static int nextKey(int ciphered, int key) {
            return ((ciphered + key) * FACTOR + TERM) & KEY_MOST;
        }

        /** Two digits become a byte, in place; false if they can't. */
        boolean turnFromDigits() {
            int digits = 0;
            int upper = 0;
            for (int i = 0; i < length; i++) {
                int octet = row[i] & 255;
                int digit = digitOf(octet);
                if (digit == NONE && !isBlank(octet)) {
                    return false;
                }
                if (digit != NONE && digits % 2 == 0) {
                    upper = digit;
                    digits++;
                } else if (digit != NONE) {
                    row[digits / 2] = (byte) (upper * 16 + digit);
                    digits++;
                }
            }
            length = digits / 2;
            return digits % 2 == 0;
        }
    }

    /**
     * Where each program of one sort begins and ends in the font's bytes: told one by one, or by the
     * offsets of an INDEX, which are looked up there (so that an object needs no room for them).
     */
    private static final class Shelf {
        private final Octets store;
        private final int[] begins;
        private final int[] finishes;
        private int length;
        private int offsetsAt;

        /** 0 where the programs are told one by one. */
        private int offsetBytes;

        Shelf(Octets theStore, int mostOneByOne) {
            store = theStore;
            begins = new int[mostOneByOne];
            finishes = new int[mostOneByOne];
            length = 0;
            offsetsAt = 0;
            offsetBytes = 0;
        }

        int size() {
            return length;
        }

        boolean isFull() {
            return length >= begins.length;
        }

        /** Room for n programs, none of them told yet. */
        void lay(int n) {
            length = Math.max(0, Math.min(n, begins.length));
            Arrays.fill(begins, 0, length, NONE);
            offsetBytes = 0;
        }

        void layIndex(int n, int at, int bytes) {
            length = n;
            offsetsAt = at;
            offsetBytes = bytes;
        }

        void put(int k, int begin, int finish) {
            if (k >= 0 && k < length && k < begins.length) {
                begins[k] = begin;
                finishes[k] = finish;
            }
        }

        void add(int begin, int finish) {
            if (!isFull()) {
                length++;
                put(length - 1, begin, finish);
            }
        }

        boolean has(long k) {
            if (k < 0 || k >= length) {
                return false;
            }
            return offsetBytes > 0 || k < begins.length && begins[(int) k] != NONE;
        }

        int beginOf(int k) {
            if (!has(k)) {
                return 0;
            }
            return offsetBytes > 0 ? objectAt(k) : begins[k];
        }

        int finishOf(int k) {
            if (!has(k)) {
                return 0;
            }
            return offsetBytes > 0 ? objectAt(k + 1) : finishes[k];
        }

        private int objectAt(int k) {
            int offset = 0;
            for (int i = 0; i < offsetBytes; i++) {
                offset = offset * 256 + store.get(offsetsAt + k * offsetBytes + i);
            }
            return offsetsAt + (length + 1) * offsetBytes + offset - 1;
        }
    }

    /** A font as it has been read; its family is NONE while it has not. */
    private static final class Font {
        private final Octets store;
        private final Shelf letters;
        private final Shelf locals;
        private final Shelf globals;
        private int family;
        private int defaultWidth;
        private int nominalWidth;

        Font() {
            store = new Octets(TAPE_MOST);
            letters = new Shelf(store, LETTERS_MOST);
            locals = new Shelf(store, LOCALS_MOST);
            globals = new Shelf(store, 0);
            family = NONE;
            defaultWidth = 0;
            nominalWidth = 0;
        }

        void begin(int newFamily, Octets tape, int from) {
            family = newFamily;
            store.cut(0);
            store.addAll(tape, from);
            letters.lay(0);
            locals.lay(0);
            globals.lay(0);
            defaultWidth = 0;
            nominalWidth = 0;
        }

        Shelf shelfOf(int sort) {
            switch (sort) {
                case 0:
                    return letters;
                case 1:
                    return locals;
                case 2:
                    return globals;
                default:
                    return null;
            }
        }
    }

    /** What a DICT has told: of each operator that counts, its operands as they were told last. */
    private static final class Dict {
        static final int LETTERS_AT = 17;
        static final int PRIVATE_AT = 18;
        static final int KIND = 262;
        static final int LOCALS_AT = 19;
        static final int DEFAULT = 20;
        static final int NOMINAL = 21;
        static final int OPERANDS_MOST = 48;

        private static final int SLOTS = 6;

        /** A number of operands that no operator wants. */
        private static final int WITH_REAL = 49;

        private final int[] operands;
        private int pending;
        private boolean real;
        private final int[] many;
        private final int[] firsts;
        private final int[] seconds;

        Dict() {
            operands = new int[OPERANDS_MOST];
            pending = 0;
            real = false;
            many = new int[SLOTS];
            firsts = new int[SLOTS];
            seconds = new int[SLOTS];
        }

        void clear() {
            pending = 0;
            real = false;
            Arrays.fill(many, NONE);
        }

        boolean isFull() {
            return pending >= OPERANDS_MOST;
        }

        boolean isBetween() {
            return pending == 0;
        }

        void add(int operand) {
            if (!isFull()) {
                operands[pending] = operand;
                pending++;
            }
        }

        void addReal() {
            add(0);
            real = true;
        }

        void tell(int operator) {
            int slot = slotOf(operator);
            if (slot != NONE) {
                many[slot] = real ? WITH_REAL : pending;
                firsts[slot] = pending > 0 ? operands[0] : 0;
                seconds[slot] = pending > 1 ? operands[1] : 0;
            }
            pending = 0;
            real = false;
        }

        boolean isTold(int operator) {
            int slot = slotOf(operator);
            return slot != NONE && many[slot] != NONE;
        }

        /** Whether an operator is told by so many INTEGERS, or not at all. */
        boolean fits(int operator, int n) {
            int slot = slotOf(operator);
            return slot == NONE || many[slot] == NONE || many[slot] == n;
        }

        int first(int operator) {
            return isTold(operator) ? firsts[slotOf(operator)] : 0;
        }

        int second(int operator) {
            return isTold(operator) ? seconds[slotOf(operator)] : 0;
        }

        private static int slotOf(int operator) {
            switch (operator) {
                case LETTERS_AT:
                    return 0;
                case PRIVATE_AT:
                    return 1;
                case KIND:
                    return 2;
                case LOCALS_AT:
                    return 3;
                case DEFAULT:
                    return 4;
                case NOMINAL:
                    return 5;
                default:
                    return NONE;
            }
        }
    }

    /**
     * Reads a font of the Compact Font Format. The first fault stays: behind it nothing is taken and
     * nothing is asked any more.
     */
    private static final class CffReader {
        private static final int BEYOND = 1;
        private static final int NOT_AS_TOLD = 2;
        private static final int INDEX_MOST = 65535;
        private static final long NO_BOUND = Long.MAX_VALUE;

        private final Dict dict;
        private Font font;
        private Octets store;
        private int fault;
        private long place;

        /** Where the DICT ends that is being read. */
        private long bound;

        private int indexCount;
        private int offsetBytes;
        private long offsetsAt;
        private long objectsAt;

        CffReader() {
            dict = new Dict();
            font = null;
            store = null;
            bound = NO_BOUND;
        }

        int parse(Octets tape, Font into) {
            into.begin(CFF, tape, 0);
            font = into;
            store = into.store;
            fault = 0;
            bound = NO_BOUND;
            takeHeader();
            takeIndex(1, 1);
            takeIndex(1, 1);
            long topFrom = objectsAt;
            long topTo = place;
            takeIndex(0, INDEX_MOST);
            takeIndex(0, INDEX_MOST);
            shelve(font.globals);
            takeTop(topFrom, topTo);
            long privateAt = dict.second(Dict.PRIVATE_AT);
            long privateBytes = dict.first(Dict.PRIVATE_AT);
            boolean hasPrivate = dict.isTold(Dict.PRIVATE_AT);
            place = dict.first(Dict.LETTERS_AT);
            takeIndex(1, LETTERS_MOST);
            shelve(font.letters);
            if (fault == 0 && hasPrivate) {
                takePrivate(privateAt, privateBytes);
            }
            return fault;
        }

        private void wrong(int newFault) {
            if (fault == 0) {
                fault = newFault;
            }
        }

        private void want(boolean asTold) {
            if (!asTold) {
                wrong(NOT_AS_TOLD);
            }
        }

        private int take() {
            if (place < 0 || place >= store.size()) {
                wrong(BEYOND);
            } else if (place >= bound) {
                wrong(NOT_AS_TOLD);
            }
            if (fault != 0) {
                return NONE;
            }
            int octet = store.get(place);
            place++;
            return octet;
        }

        private long takeNumber(int bytes) {
            long number = 0;
            for (int i = 0; i < bytes && fault == 0; i++) {
                number = number * 256 + take();
            }
            return fault == 0 ? number : 0;
        }

        private void takeHeader() {
            place = 0;
            want(take() == 1);
            take();
            int headerBytes = take();
            want(headerBytes >= 4);
            int size = take();
            want(size >= 1 && size <= 4);
            place = headerBytes;
        }

        private void takeIndex(int least, int most) {
            indexCount = (int) takeNumber(2);
            want(indexCount >= least && indexCount <= most);
            if (fault != 0 || indexCount == 0) {
                return;
            }
            offsetBytes = take();
            want(offsetBytes >= 1 && offsetBytes <= 4);
            offsetsAt = place;
            long ahead = 1;
            for (int k = 0; k <= indexCount && fault == 0; k++) {
                long offset = takeNumber(offsetBytes);
                want(offset >= ahead && (k > 0 || offset == 1));
                ahead = offset;
            }
            objectsAt = place;
            place += ahead - 1;
            if (place > store.size()) {
                wrong(BEYOND);
            }
        }

        /** The programs of the INDEX that was taken last. */
        private void shelve(Shelf shelf) {
            if (fault == 0 && indexCount > 0) {
                shelf.layIndex(indexCount, (int) offsetsAt, offsetBytes);
            }
        }

        private void takeTop(long from, long to) {
            takeDict(from, to);
            want(dict.isTold(Dict.LETTERS_AT) && dict.fits(Dict.LETTERS_AT, 1));
            want(dict.fits(Dict.PRIVATE_AT, 2));
            want(dict.fits(Dict.KIND, 1));
            want(!dict.isTold(Dict.KIND) || dict.first(Dict.KIND) == 2);
        }

        private void takePrivate(long from, long bytes) {
            if (from < 0 || from > store.size()) {
                wrong(BEYOND);
            }
            want(bytes >= 0);
            takeDict(from, from + bytes);
            want(dict.fits(Dict.LOCALS_AT, 1));
            want(dict.fits(Dict.DEFAULT, 1));
            want(dict.fits(Dict.NOMINAL, 1));
            font.defaultWidth = dict.first(Dict.DEFAULT);
            font.nominalWidth = dict.first(Dict.NOMINAL);
            if (fault == 0 && dict.isTold(Dict.LOCALS_AT)) {
                place = from + dict.first(Dict.LOCALS_AT);
                takeIndex(0, INDEX_MOST);
                shelve(font.locals);
            }
        }

        private void takeDict(long from, long to) {
            dict.clear();
            place = from;
            bound = to;
            for (int turn = 0; turn <= TAPE_MOST && fault == 0 && place < bound; turn++) {
                takeOperandOrOperator();
            }
            want(dict.isBetween());
            bound = NO_BOUND;
        }

        private void takeOperandOrOperator() {
            int first = take();
            if (first <= 21) {
                int operator = first == 12 ? 256 + take() : first;
                if (fault == 0) {
                    dict.tell(operator);
                }
                return;
            }
            want(!dict.isFull() && isOperand(first));
            if (fault == 0 && first == 30) {
                takeReal();
                dict.addReal();
            } else if (fault == 0) {
                dict.add(wholeNumber(first, (int) takeNumber(bytesBehind(first))));
            }
        }

        private static boolean isOperand(int first) {
            return first >= 28 && first <= 30 || first >= 32 && first <= 254;
        }

        private void takeReal() {
            boolean open = true;
            for (int i = 0; i <= TAPE_MOST && open && fault == 0; i++) {
                int octet = take();
                int upper = octet >> 4;
                int lower = octet & 15;
                open = upper != 15 && lower != 15;
                want(upper != 13 && (upper == 15 || lower != 13));
            }
        }
    }

    /** Reads a font of Type 1: what is behind "eexec", as bytes or as digits, word by word. */
    private static final class TypeOneReader {
        private static final int ENDS_AHEAD = 1;
        private static final int NOT_AS_TOLD = 2;
        private static final int NO_LETTERS = 3;
        private static final int TEXT_KEY = 55665;
        private static final int PROGRAM_KEY = 4330;
        private static final int TEXT_AHEAD = 4;
        private static final int COUNT_BOUND = 10000;

        private Font font;
        private Octets store;
        private int place;
        private int wordFrom;
        private int wordTo;
        private int lenIV;
        private boolean localsTold;

        /** The COUNT that was taken last. */
        private int counted;

        /** Where the program begins and ends that was taken last. */
        private int programFrom;
        private int programTo;

        TypeOneReader() {
            font = null;
            store = null;
        }

        int parse(Octets tape, Font into) {
            int from = behindEexec(tape);
            if (from == NONE || tape.size() - from < TEXT_AHEAD) {
                return ENDS_AHEAD;
            }
            into.begin(TYPE_ONE, tape, from);
            font = into;
            store = into.store;
            if (isToldByDigits() && !store.turnFromDigits()) {
                return NOT_AS_TOLD;
            }
            store.decipher(TEXT_KEY, 0, store.size());
            place = TEXT_AHEAD;
            lenIV = 4;
            localsTold = false;
            int fault = takeSettings();
            return fault == 0 ? takeLetters() : fault;
        }

        private static int behindEexec(Octets tape) {
            String mark = "eexec";
            int marked = mark.length();
            for (int i = 0; i + marked < tape.size(); i++) {
                if (isAt(tape, i, mark) && isBlank(tape.get(i + marked))) {
                    return i + marked + 1;
                }
            }
            return NONE;
        }

        private static boolean isAt(Octets octets, int from, String text) {
            for (int i = 0; i < text.length(); i++) {
                if (octets.get(from + i) != text.charAt(i)) {
                    return false;
                }
            }
            return true;
        }

        private boolean isToldByDigits() {
            for (int i = 0; i < TEXT_AHEAD; i++) {
                if (digitOf(store.get(i)) == NONE) {
                    return false;
                }
            }
            return true;
        }

        /** All up to "/CharStrings": 0 as soon as that word is taken. */
        private int takeSettings() {
            int most = store.size();
            int fault = 0;
            for (int turn = 0; turn <= most && fault == 0; turn++) {
                if (!takeWord()) {
                    return ENDS_AHEAD;
                }
                if (isWord("/CharStrings")) {
                    return 0;
                }
                if (isWord("/lenIV")) {
                    fault = takeCount();
                    lenIV = fault == 0 ? counted : lenIV;
                } else if (isWord("/Subrs")) {
                    fault = takeLocals();
                } else if (isWord("dup") && localsTold) {
                    fault = takeLocal();
                }
            }
            return fault;
        }

        private int takeLocals() {
            int fault = takeCount();
            if (fault != 0) {
                return fault;
            }
            if (counted > LOCALS_MOST) {
                return NOT_AS_TOLD;
            }
            font.locals.lay(counted);
            localsTold = true;
            return takeThisWord("array");
        }

        private int takeLocal() {
            int behindDup = place;
            if (!takeWord()) {
                return ENDS_AHEAD;
            }
            int k = countOfWord();
            if (k == NONE) {
                // That word is then looked at for itself.
                place = behindDup;
                return 0;
            }
            if (k >= font.locals.size()) {
                return NOT_AS_TOLD;
            }
            int fault = takeProgram();
            if (fault == 0) {
                font.locals.put(k, programFrom, programTo);
            }
            return fault;
        }

        private int takeLetters() {
            int fault = takeCount();
            fault = fault == 0 ? takeThisWord("dict") : fault;
            fault = fault == 0 ? takeThisWord("dup") : fault;
            fault = fault == 0 ? takeThisWord("begin") : fault;
            int most = store.size();
            for (int turn = 0; turn <= most && fault == 0; turn++) {
                if (!takeWord()) {
                    return ENDS_AHEAD;
                }
                if (isWord("end")) {
                    return font.letters.size() == 0 ? NO_LETTERS : 0;
                }
                fault = takeLetter();
            }
            return fault;
        }

        private int takeLetter() {
            boolean named = store.get(wordFrom) == '/' && wordTo - wordFrom > 1;
            if (!named || font.letters.isFull()) {
                return NOT_AS_TOLD;
            }
            int fault = takeProgram();
            if (fault != 0) {
                return fault;
            }
            font.letters.add(programFrom, programTo);
            return takeWord() ? 0 : ENDS_AHEAD;
        }

        private int takeProgram() {
            int fault = takeCount();
            if (fault != 0) {
                return fault;
            }
            int bytes = counted;
            if (!takeWord()) {
                return ENDS_AHEAD;
            }
            if (!isWord("RD") && !isWord("-|")) {
                return NOT_AS_TOLD;
            }
            // A word ends at a blank or at the text's end.
            int from = place + 1;
            if (from + bytes > store.size()) {
                return ENDS_AHEAD;
            }
            place = from + bytes;
            store.decipher(PROGRAM_KEY, from, place);
            programFrom = Math.min(from + lenIV, place);
            programTo = place;
            return 0;
        }

        private boolean takeWord() {
            int size = store.size();
            while (place < size && isBlank(store.get(place))) {
                place++;
            }
            wordFrom = place;
            while (place < size && !isBlank(store.get(place))) {
                place++;
            }
            wordTo = place;
            return wordTo > wordFrom;
        }

        private boolean isWord(String text) {
            return wordTo - wordFrom == text.length() && isAt(store, wordFrom, text);
        }

        private int takeThisWord(String text) {
            if (!takeWord()) {
                return ENDS_AHEAD;
            }
            return isWord(text) ? 0 : NOT_AS_TOLD;
        }

        private int takeCount() {
            if (!takeWord()) {
                return ENDS_AHEAD;
            }
            counted = countOfWord();
            return counted == NONE ? NOT_AS_TOLD : 0;
        }

        private int countOfWord() {
            int value = 0;
            for (int i = wordFrom; i < wordTo; i++) {
                int octet = store.get(i);
                if (octet < '0' || octet > '9') {
                    return NONE;
                }
                value = Math.min(value * 10 + octet - '0', COUNT_BOUND);
            }
            return value < COUNT_BOUND ? value : NONE;
        }
    }

    /** The PARTS that have been drawn, and the POINT that they go from. */
    private static final class Outline {
        private static final int MOVE = 0;
        private static final int LINE = 1;
        private static final int CURVE = 2;
        private static final int CLOSE = 3;
        private static final int NUMBERS_A_PART = 6;

        private final byte[] kinds;
        private final long[] numbers;
        private int length;
        private int limit;
        private long x;
        private long y;

        /** Whether a line or curve came since the last MOVE. */
        private boolean open;

        Outline() {
            kinds = new byte[LIMIT_MOST];
            numbers = new long[LIMIT_MOST * NUMBERS_A_PART];
            length = 0;
            limit = 0;
        }

        void begin(int newLimit) {
            length = 0;
            limit = Math.max(0, Math.min(newLimit, LIMIT_MOST));
            goTo(0, 0);
            open = false;
        }

        int size() {
            return length;
        }

        int kindOf(int i) {
            return i >= 0 && i < length ? kinds[i] : NONE;
        }

        long pointOf(int i, int k, int way) {
            int kind = kindOf(i);
            if (kind == NONE || kind == CLOSE || way < 0 || way > 1) {
                return 0;
            }
            if (k < 0 || k > (kind == CURVE ? 2 : 0)) {
                return 0;
            }
            return numbers[i * NUMBERS_A_PART + k * 2 + way];
        }

        void goTo(long newX, long newY) {
            x = newX;
            y = newY;
        }

        void goBy(long dx, long dy) {
            x += dx;
            y += dy;
        }

        int moveBy(long dx, long dy) {
            x += dx;
            y += dy;
            open = false;
            return add(MOVE);
        }

        int lineBy(long dx, long dy) {
            x += dx;
            y += dy;
            open = true;
            return add(LINE);
        }

        int curveBy(long dx1, long dy1, long dx2, long dy2, long dx3, long dy3) {
            x += dx1;
            y += dy1;
            open = true;
            int fault = add(CURVE);
            if (fault != 0) {
                return fault;
            }
            int at = (length - 1) * NUMBERS_A_PART;
            numbers[at + 2] = x + dx2;
            numbers[at + 3] = y + dy2;
            x += dx2 + dx3;
            y += dy2 + dy3;
            numbers[at + 4] = x;
            numbers[at + 5] = y;
            return 0;
        }

        int close() {
            return add(CLOSE);
        }

        int closeIfOpen() {
            return open ? close() : 0;
        }

        private int add(int kind) {
            if (length >= limit) {
                return Machine.TOO_MANY_PARTS;
            }
            kinds[length] = (byte) kind;
            numbers[length * NUMBERS_A_PART] = x;
            numbers[length * NUMBERS_A_PART + 1] = y;
            length++;
            return 0;
        }
    }

    /** The NUMBERS of a run, and what is reckoned on them. */
    private static final class Pile {
        private static final int PLACES = 32;

        private final long[] numbers;
        private final long[] places;
        private int length;
        private int most;

        Pile() {
            numbers = new long[PILE_MOST_CFF];
            places = new long[PLACES];
            length = 0;
            most = 0;
        }

        void begin(int newMost) {
            length = 0;
            most = Math.min(newMost, PILE_MOST_CFF);
            Arrays.fill(places, 0);
        }

        int size() {
            return length;
        }

        void clear() {
            length = 0;
        }

        long get(int i) {
            return i >= 0 && i < length ? numbers[i] : 0;
        }

        /** The NUMBER so many below the top one. */
        long below(int depth) {
            return get(length - 1 - depth);
        }

        /** As below(), the whole one not above it. */
        long wholeBelow(int depth) {
            return below(depth) >> 16;
        }

        void drop(int n) {
            if (n > 0) {
                length = n < length ? length - n : 0;
            }
        }

        int push(long number) {
            if (length >= most) {
                return Machine.PILE_FULL;
            }
            numbers[length] = number;
            length++;
            return 0;
        }

        /** Some uppermost NUMBERS go, and one comes for them. */
        private int replace(int n, long number) {
            drop(n);
            return push(number);
        }

        /** The top one divides the one below it; the answer has 64 bits. */
        int divide() {
            if (length < 2) {
                return Machine.WRONG_COUNT;
            }
            long divisor = below(0);
            if (divisor == 0) {
                return Machine.IMPOSSIBLE;
            }
            return replace(2, below(1) * ONE / divisor);
        }

        /** An operator of arithmetic, by its second byte. */
        int reckon(int operator) {
            int wanted = wantedBy(operator);
            if (wanted == NONE) {
                return Machine.NO_OPERATOR;
            }
            if (length < wanted) {
                return Machine.WRONG_COUNT;
            }
            switch (wanted) {
                case 1:
                    return reckonOne(operator);
                case 2:
                    return reckonTwo(operator);
                default:
                    return replace(4, below(1) <= below(0) ? below(3) : below(2));
            }
        }

        private static int wantedBy(int operator) {
            switch (operator) {
                case 5:
                case 9:
                case 14:
                case 18:
                case 21:
                case 26:
                case 27:
                case 29:
                    return 1;
                case 3:
                case 4:
                case 10:
                case 11:
                case 12:
                case 15:
                case 20:
                case 24:
                case 28:
                case 30:
                    return 2;
                case 22:
                    return 4;
                default:
                    return NONE;
            }
        }

        private int reckonOne(int operator) {
            long top = below(0);
            switch (operator) {
                case 5:
                    return replace(1, truth(top == 0));
                case 9:
                    return replace(1, (int) Math.abs(top));
                case 14:
                    return replace(1, (int) -top);
                case 18:
                    drop(1);
                    return 0;
                case 21:
                    return fetch(wholeBelow(0));
                case 26:
                    return top < 0 ? Machine.IMPOSSIBLE : replace(1, rootOf(top * ONE));
                case 27:
                    return push(top);
                default:
                    return pick(wholeBelow(0));
            }
        }

        private int reckonTwo(int operator) {
            long a = below(1);
            long b = below(0);
            switch (operator) {
                case 3:
                    return replace(2, truth(a != 0 && b != 0));
                case 4:
                    return replace(2, truth(a != 0 || b != 0));
                case 10:
                    return replace(2, (int) (a + b));
                case 11:
                    return replace(2, (int) (a - b));
                case 12:
                    return b == 0 ? Machine.IMPOSSIBLE : replace(2, (int) (a * ONE / b));
                case 15:
                    return replace(2, truth(a == b));
                case 20:
                    return keep(a, wholeBelow(0));
                case 24:
                    return replace(2, (int) (a * b / ONE));
                case 28:
                    replace(2, b);
                    return push(a);
                default:
                    return roll(wholeBelow(1), wholeBelow(0));
            }
        }

        private static long truth(boolean so) {
            return so ? ONE : 0;
        }

        private int keep(long number, long at) {
            if (at < 0 || at >= PLACES) {
                return Machine.IMPOSSIBLE;
            }
            places[(int) at] = number;
            drop(2);
            return 0;
        }

        private int fetch(long at) {
            if (at < 0 || at >= PLACES) {
                return Machine.IMPOSSIBLE;
            }
            return replace(1, places[(int) at]);
        }

        private int pick(long depth) {
            int deep = (int) Math.max(0, Math.min(depth, PILE_MOST_CFF));
            return deep + 1 >= length ? Machine.IMPOSSIBLE : replace(1, below(deep + 1));
        }

        private int roll(long n, long up) {
            if (n < 0) {
                return Machine.IMPOSSIBLE;
            }
            if (n > length - 2) {
                return Machine.WRONG_COUNT;
            }
            drop(2);
            if (n > 0) {
                int from = length - (int) n;
                int split = from + (int) Math.floorMod(up, n);
                turnRound(from, length);
                turnRound(from, split);
                turnRound(split, length);
            }
            return 0;
        }

        private void turnRound(int from, int to) {
            int low = from;
            int high = to - 1;
            while (low >= 0 && low < high && high < length) {
                long lower = numbers[low];
                numbers[low] = numbers[high];
                numbers[high] = lower;
                low++;
                high--;
            }
        }

        /** The root of a number below 2 to the 48th, downwards. */
        private static long rootOf(long number) {
            long root = 0;
            for (int bit = 23; bit >= 0; bit--) {
                long tried = root | (1L << bit);
                if (tried * tried <= number) {
                    root = tried;
                }
            }
            return root;
        }
    }

    /** Runs a letter's program; what the operators do is for the two families to say. */
    private abstract static class Machine {
        static final int NO_OPERATOR = 1;
        static final int WRONG_COUNT = 2;
        static final int PILE_FULL = 3;
        static final int NO_SUBROUTINE = 4;
        static final int TOO_DEEP = 5;
        static final int TOO_MANY_PARTS = 6;
        static final int BYTES_END = 7;
        static final int TOO_MANY_STEPS = 8;
        static final int IMPOSSIBLE = 9;

        static final int ESCAPE = 256;

        private static final int STEPS_MOST = 3000;
        private static final int DEPTH_MOST = 10;

        final Pile pile;
        final Outline outline;
        Font font;
        int steps;
        int hints;
        long width;

        private int begin;
        private int finish;
        private int place;
        private boolean ended;
        private final int[] callerBegins;
        private final int[] callerFinishes;
        private final int[] callerPlaces;
        private int depth;

        Machine(Pile thePile, Outline theOutline) {
            pile = thePile;
            outline = theOutline;
            font = null;
            callerBegins = new int[DEPTH_MOST];
            callerFinishes = new int[DEPTH_MOST];
            callerPlaces = new int[DEPTH_MOST];
        }

        abstract void prepare();

        /** A number told by 255 and four bytes. */
        abstract long longNumber(int told);

        abstract boolean isNumber(int octet);

        /** One operator (ESCAPE and the second byte, of those with two): 0, or what can't be. */
        abstract int operate(int operator);

        int run(Font theFont, int letter) {
            font = theFont;
            begin = font.letters.beginOf(letter);
            finish = font.letters.finishOf(letter);
            place = begin;
            ended = false;
            depth = 0;
            steps = 0;
            hints = 0;
            width = 0;
            prepare();
            int fault = 0;
            for (int turn = 0; turn <= STEPS_MOST && fault == 0 && !ended; turn++) {
                int operator = takeOperator();
                fault = operator < 0 ? -operator : operate(operator);
                if (fault == 0) {
                    steps++;
                }
            }
            return fault;
        }

        int bytesDone() {
            return place - begin;
        }

        /** The NUMBERS come to the PILE up to an operator: that one, or below 0 what can't be. */
        private int takeOperator() {
            int first = takeByte();
            for (int i = 0; i <= PILE_MOST_CFF && isNumber(first); i++) {
                int fault = takeNumber(first);
                if (fault != 0) {
                    return -fault;
                }
                first = takeByte();
            }
            if (first == NONE) {
                return -BYTES_END;
            }
            if (steps >= STEPS_MOST) {
                return -TOO_MANY_STEPS;
            }
            if (first != 12) {
                return first;
            }
            int second = takeByte();
            return second == NONE ? -BYTES_END : ESCAPE + second;
        }

        private int takeByte() {
            if (place >= finish) {
                return NONE;
            }
            place++;
            return font.store.get(place - 1);
        }

        private int takeNumber(int first) {
            int behind = bytesBehind(first);
            int told = 0;
            for (int i = 0; i < behind; i++) {
                int octet = takeByte();
                if (octet == NONE) {
                    return BYTES_END;
                }
                told = told << 8 | octet;
            }
            return pile.push(first == 255 ? longNumber(told) : wholeNumber(first, told) * ONE);
        }

        /** Whether there are so many bytes more; they are gone over, or as many as there are. */
        boolean skipBytes(int n) {
            int left = finish - place;
            place += Math.min(n, left);
            return n <= left;
        }

        void finishAll() {
            ended = true;
        }

        int call(Shelf shelf, int bias) {
            if (pile.size() < 1) {
                return WRONG_COUNT;
            }
            long k = pile.wholeBelow(0) + bias;
            if (!shelf.has(k)) {
                return NO_SUBROUTINE;
            }
            if (depth >= DEPTH_MOST) {
                return TOO_DEEP;
            }
            pile.drop(1);
            callerBegins[depth] = begin;
            callerFinishes[depth] = finish;
            callerPlaces[depth] = place;
            depth++;
            begin = shelf.beginOf((int) k);
            finish = shelf.finishOf((int) k);
            place = begin;
            return 0;
        }

        int goBack() {
            if (depth < 1) {
                return NO_OPERATOR;
            }
            depth--;
            begin = callerBegins[depth];
            finish = callerFinishes[depth];
            place = callerPlaces[depth];
            return 0;
        }

        /** Curves by six NUMBERS each. */
        int curves(int from, int to) {
            int fault = 0;
            for (int i = from; i + 6 <= to && fault == 0; i += 6) {
                fault = outline.curveBy(pile.get(i), pile.get(i + 1), pile.get(i + 2),
                        pile.get(i + 3), pile.get(i + 4), pile.get(i + 5));
            }
            return fault;
        }

        /** Curves that begin and end along x and y by turns; the last may have a fifth number. */
        int turningCurves(boolean beginsAlongX) {
            int n = pile.size();
            if (n < 4 || n % 4 > 1) {
                return WRONG_COUNT;
            }
            boolean alongX = beginsAlongX;
            int fault = 0;
            for (int i = 0; i + 4 <= n && fault == 0; i += 4) {
                long a = pile.get(i);
                long bx = pile.get(i + 1);
                long by = pile.get(i + 2);
                long c = pile.get(i + 3);
                long fifth = i + 5 == n ? pile.get(i + 4) : 0;
                fault = alongX ? outline.curveBy(a, 0, bx, by, fifth, c)
                        : outline.curveBy(0, a, bx, by, c, fifth);
                alongX = !alongX;
            }
            return fault;
        }
    }

    /** The operators of the Compact Font Format. */
    private static final class CffMachine extends Machine {
        /** Whether an operator came that could tell the WIDTH. */
        private boolean widthAsked;

        CffMachine(Pile thePile, Outline theOutline) {
            super(thePile, theOutline);
            widthAsked = false;
        }

        void prepare() {
            pile.begin(PILE_MOST_CFF);
            widthAsked = false;
        }

        long longNumber(int told) {
            return told;
        }

        boolean isNumber(int octet) {
            return octet == 28 || octet >= 32;
        }

        int operate(int operator) {
            switch (operator) {
                case 10:
                    return call(font.locals, biasOf(font.locals));
                case 29:
                    return call(font.globals, biasOf(font.globals));
                case 11:
                    return goBack();
                default:
                    break;
            }
            if (operator >= ESCAPE && !isFlex(operator)) {
                return pile.reckon(operator - ESCAPE);
            }
            int fault = mayTellWidth(operator) ? hintOrMove(operator) : linesAndCurves(operator);
            pile.clear();
            return fault;
        }

        private static boolean isFlex(int operator) {
            return operator >= ESCAPE + 34 && operator <= ESCAPE + 37;
        }

        private static boolean mayTellWidth(int operator) {
            switch (operator) {
                case 1:
                case 3:
                case 4:
                case 14:
                case 18:
                case 19:
                case 20:
                case 21:
                case 22:
                case 23:
                    return true;
                default:
                    return false;
            }
        }

        private static int biasOf(Shelf shelf) {
            if (shelf.size() < 1240) {
                return 107;
            }
            return shelf.size() < 33900 ? 1131 : 32768;
        }

        private int hintOrMove(int operator) {
            switch (operator) {
                case 19:
                case 20:
                    return mask();
                case 4:
                case 21:
                case 22:
                    return move(operator);
                case 14:
                    return endLetter();
                default:
                    return stems();
            }
        }

        private int linesAndCurves(int operator) {
            switch (operator) {
                case 5:
                    return pairsThenSixes(0);
                case 6:
                    return turningLines(true);
                case 7:
                    return turningLines(false);
                case 8:
                    return sixesThenPair(0);
                case 24:
                    return sixesThenPair(2);
                case 25:
                    return pairsThenSixes(6);
                case 26:
                    return straightCurves(false);
                case 27:
                    return straightCurves(true);
                case 30:
                    return turningCurves(false);
                case 31:
                    return turningCurves(true);
                case ESCAPE + 34:
                    return pile.size() == 7 ? flexAlongX() : WRONG_COUNT;
                case ESCAPE + 35:
                    return pile.size() == 13 ? curves(0, 12) : WRONG_COUNT;
                case ESCAPE + 36:
                    return pile.size() == 9 ? flexBackToY() : WRONG_COUNT;
                case ESCAPE + 37:
                    return pile.size() == 11 ? flexBack() : WRONG_COUNT;
                default:
                    return NO_OPERATOR;
            }
        }

        /** How many of the lowest NUMBERS are the WIDTH's: 1 if there is one more, the first time. */
        private int widthsShare(boolean oneMore) {
            return oneMore && !widthAsked ? 1 : 0;
        }

        /** Asked behind the count's own test: a wrong count tells no WIDTH, nor DEFAULT for it. */
        private void tellWidth(int share) {
            if (widthAsked) {
                return;
            }
            widthAsked = true;
            width = share == 1 ? font.nominalWidth * ONE + pile.get(0) : font.defaultWidth * ONE;
        }

        private int stems() {
            int n = pile.size();
            int share = widthsShare(n % 2 == 1);
            int paired = n - share;
            if (paired < 2 || paired % 2 == 1) {
                return WRONG_COUNT;
            }
            tellWidth(share);
            hints += paired / 2;
            return 0;
        }

        private int mask() {
            int n = pile.size();
            int share = widthsShare(n % 2 == 1);
            int paired = n - share;
            if (paired % 2 == 1) {
                return WRONG_COUNT;
            }
            tellWidth(share);
            hints += paired / 2;
            return skipBytes((hints + 7) / 8) ? 0 : BYTES_END;
        }

        private int move(int operator) {
            int wanted = operator == 21 ? 2 : 1;
            int from = widthsShare(pile.size() == wanted + 1);
            if (pile.size() - from != wanted) {
                return WRONG_COUNT;
            }
            tellWidth(from);
            int fault = outline.closeIfOpen();
            if (fault != 0) {
                return fault;
            }
            long first = pile.get(from);
            switch (operator) {
                case 21:
                    return outline.moveBy(first, pile.get(from + 1));
                case 22:
                    return outline.moveBy(first, 0);
                default:
                    return outline.moveBy(0, first);
            }
        }

        private int endLetter() {
            int share = widthsShare(pile.size() == 1);
            if (pile.size() != share) {
                return WRONG_COUNT;
            }
            tellWidth(share);
            int fault = outline.closeIfOpen();
            if (fault == 0) {
                finishAll();
            }
            return fault;
        }

        /** Lines by pairs, one at least, then curves by so many numbers. */
        private int pairsThenSixes(int curved) {
            int straight = pile.size() - curved;
            if (straight < 2 || straight % 2 == 1) {
                return WRONG_COUNT;
            }
            int fault = lines(0, straight);
            return fault == 0 ? curves(straight, pile.size()) : fault;
        }

        /** Curves by sixes, one at least, then lines by so many numbers. */
        private int sixesThenPair(int straight) {
            int curved = pile.size() - straight;
            if (curved < 6 || curved % 6 != 0) {
                return WRONG_COUNT;
            }
            int fault = curves(0, curved);
            return fault == 0 ? lines(curved, pile.size()) : fault;
        }

        private int lines(int from, int to) {
            int fault = 0;
            for (int i = from; i + 2 <= to && fault == 0; i += 2) {
                fault = outline.lineBy(pile.get(i), pile.get(i + 1));
            }
            return fault;
        }

        private int turningLines(boolean beginsAlongX) {
            int n = pile.size();
            if (n < 1) {
                return WRONG_COUNT;
            }
            boolean alongX = beginsAlongX;
            int fault = 0;
            for (int i = 0; i < n && fault == 0; i++) {
                fault = alongX ? outline.lineBy(pile.get(i), 0) : outline.lineBy(0, pile.get(i));
                alongX = !alongX;
            }
            return fault;
        }

        /** Curves that begin and end along the same way; one number more turns the first one. */
        private int straightCurves(boolean alongX) {
            int n = pile.size();
            int from = n % 4;
            if (n < 4 || from > 1) {
                return WRONG_COUNT;
            }
            long side = from == 1 ? pile.get(0) : 0;
            int fault = 0;
            for (int i = from; i + 4 <= n && fault == 0; i += 4) {
                long a = pile.get(i);
                long bx = pile.get(i + 1);
                long by = pile.get(i + 2);
                long c = pile.get(i + 3);
                fault = alongX ? outline.curveBy(a, side, bx, by, c, 0)
                        : outline.curveBy(side, a, bx, by, 0, c);
                side = 0;
            }
            return fault;
        }

        private int flexAlongX() {
            long dy = pile.get(2);
            int fault = outline.curveBy(pile.get(0), 0, pile.get(1), dy, pile.get(3), 0);
            if (fault != 0) {
                return fault;
            }
            return outline.curveBy(pile.get(4), 0, pile.get(5), -dy, pile.get(6), 0);
        }

        private int flexBackToY() {
            long dy1 = pile.get(1);
            long dy2 = pile.get(3);
            long dy5 = pile.get(7);
            int fault = outline.curveBy(pile.get(0), dy1, pile.get(2), dy2, pile.get(4), 0);
            if (fault != 0) {
                return fault;
            }
            return outline.curveBy(pile.get(5), 0, pile.get(6), dy5, pile.get(8), -(dy1 + dy2 + dy5));
        }

        private int flexBack() {
            long sumX = 0;
            long sumY = 0;
            for (int i = 0; i < 10; i += 2) {
                sumX += pile.get(i);
                sumY += pile.get(i + 1);
            }
            boolean alongX = Math.abs(sumX) > Math.abs(sumY);
            long last = pile.get(10);
            int fault = curves(0, 6);
            if (fault != 0) {
                return fault;
            }
            return outline.curveBy(pile.get(6), pile.get(7), pile.get(8), pile.get(9),
                    alongX ? last : -sumX, alongX ? -sumY : last);
        }
    }

    /** The operators of Type 1. */
    private static final class TypeOneMachine extends Machine {
        private static final int FLEX_POINTS = 7;

        private boolean flexing;
        private final long[] keptX;
        private final long[] keptY;
        private int kept;
        private final long[] putBy;
        private int putByCount;

        TypeOneMachine(Pile thePile, Outline theOutline) {
            super(thePile, theOutline);
            flexing = false;
            keptX = new long[FLEX_POINTS];
            keptY = new long[FLEX_POINTS];
            kept = 0;
            putBy = new long[PILE_MOST_TYPE_ONE];
            putByCount = 0;
        }

        void prepare() {
            pile.begin(PILE_MOST_TYPE_ONE);
            flexing = false;
            kept = 0;
            putByCount = 0;
        }

        long longNumber(int told) {
            return told * ONE;
        }

        boolean isNumber(int octet) {
            return octet >= 32;
        }

        int operate(int operator) {
            switch (operator) {
                case 10:
                    return call(font.locals, 0);
                case 11:
                    return goBack();
                case ESCAPE + 12:
                    return pile.divide();
                case ESCAPE + 16:
                    return callOther();
                case ESCAPE + 17:
                    return popPutBy();
                default:
                    break;
            }
            int wanted = wantedBy(operator);
            if (wanted == NONE) {
                return NO_OPERATOR;
            }
            if (pile.size() != wanted) {
                return WRONG_COUNT;
            }
            int fault = paint(operator);
            pile.clear();
            return fault;
        }

        private static int wantedBy(int operator) {
            switch (operator) {
                case 9:
                case 14:
                case ESCAPE:
                    return 0;
                case 4:
                case 6:
                case 7:
                case 22:
                    return 1;
                case 1:
                case 3:
                case 5:
                case 13:
                case 21:
                case ESCAPE + 33:
                    return 2;
                case 30:
                case 31:
                case ESCAPE + 7:
                    return 4;
                case 8:
                case ESCAPE + 1:
                case ESCAPE + 2:
                    return 6;
                default:
                    return NONE;
            }
        }

        private int paint(int operator) {
            long first = pile.get(0);
            long second = pile.get(1);
            switch (operator) {
                case 4:
                    return move(0, first);
                case 5:
                    return outline.lineBy(first, second);
                case 6:
                    return outline.lineBy(first, 0);
                case 7:
                    return outline.lineBy(0, first);
                case 8:
                    return curves(0, 6);
                case 9:
                    return outline.close();
                case 21:
                    return move(first, second);
                case 22:
                    return move(first, 0);
                case 30:
                    return turningCurves(false);
                case 31:
                    return turningCurves(true);
                default:
                    return paintNothing(operator);
            }
        }

        private int paintNothing(int operator) {
            switch (operator) {
                case 13:
                    width = pile.get(1);
                    outline.goTo(pile.get(0), 0);
                    return 0;
                case ESCAPE + 7:
                    width = pile.get(2);
                    outline.goTo(pile.get(0), pile.get(1));
                    return 0;
                case ESCAPE + 33:
                    outline.goTo(pile.get(0), pile.get(1));
                    return 0;
                case 14:
                    finishAll();
                    return 0;
                default:
                    return 0;
            }
        }

        private int move(long dx, long dy) {
            if (flexing) {
                outline.goBy(dx, dy);
                return 0;
            }
            return outline.moveBy(dx, dy);
        }

        private int callOther() {
            if (pile.size() < 2) {
                return WRONG_COUNT;
            }
            long number = pile.wholeBelow(0);
            long taken = pile.wholeBelow(1);
            if (taken < 0) {
                return IMPOSSIBLE;
            }
            if (taken > pile.size() - 2) {
                return WRONG_COUNT;
            }
            pile.drop(2);
            putByCount = 0;
            int n = (int) taken;
            int fault = 0;
            if (number < 0 || number > 3) {
                putAllBy(n);
            } else if (n != takenBy((int) number)) {
                fault = IMPOSSIBLE;
            } else if (number == 0) {
                fault = endFlex();
            } else if (number == 1) {
                beginFlex();
            } else if (number == 2) {
                fault = keepPoint();
            } else {
                putOneBy(3 * ONE);
            }
            pile.drop(n);
            return fault;
        }

        private static int takenBy(int number) {
            switch (number) {
                case 0:
                    return 3;
                case 3:
                    return 1;
                default:
                    return 0;
            }
        }

        private void beginFlex() {
            flexing = true;
            kept = 0;
        }

        private int keepPoint() {
            if (!flexing || kept >= FLEX_POINTS) {
                return IMPOSSIBLE;
            }
            keptX[kept] = outline.x;
            keptY[kept] = outline.y;
            kept++;
            return 0;
        }

        private int endFlex() {
            if (!flexing || kept != FLEX_POINTS) {
                return IMPOSSIBLE;
            }
            flexing = false;
            putOneBy(pile.below(0));
            putOneBy(pile.below(1));
            int fault = 0;
            for (int i = 1; i + 3 <= FLEX_POINTS && fault == 0; i += 3) {
                fault = outline.curveBy(keptX[i] - outline.x, keptY[i] - outline.y,
                        keptX[i + 1] - keptX[i], keptY[i + 1] - keptY[i],
                        keptX[i + 2] - keptX[i + 1], keptY[i + 2] - keptY[i + 1]);
            }
            return fault;
        }

        private void putAllBy(int n) {
            for (int depth = n - 1; depth >= 0; depth--) {
                putOneBy(pile.below(depth));
            }
        }

        private void putOneBy(long number) {
            if (putByCount < putBy.length) {
                putBy[putByCount] = number;
                putByCount++;
            }
        }

        private int popPutBy() {
            if (putByCount < 1) {
                return IMPOSSIBLE;
            }
            int fault = pile.push(putBy[putByCount - 1]);
            if (fault == 0) {
                putByCount--;
            }
            return fault;
        }
    }
}
