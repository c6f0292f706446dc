import java.util.Arrays;

/**
 * Text in numbers of five bits, as a machine for stories has it. ../shared/DOC.md says what each call
 * answers; words in capitals in the comments here are that document's.
 */
public final class ZText {
    private static final int NONE_SUCH = -1;
    private static final int OUTSIDE = -2;
    private static final int NOT_IN_VERSION = -3;
    private static final int NO_ROOM = -4;
    private static final int FAULTY = -10;

    private static final int FAULT_WITHIN = 1;
    private static final int FAULT_MEMORY = 2;
    private static final int FAULT_PLACE = 3;
    private static final int FAULT_SIGNS = 4;

    private static final int MOST_BYTES = 3000;
    private static final int MOST_SIGNS = 1000;
    private static final int MOST_WORDS = 40;
    private static final int SIGN_CODES = 1024;
    private static final int ENTRIES = 96;
    /** Four numbers for each SIGN, and the 5s that make them three times something. */
    private static final int MOST_NUMBERS = 4 * MOST_SIGNS + 2;

    private static final int SPACE = 32;
    private static final int NEW_LINE = 13;
    private static final int PAD = 5;
    private static final int LETTERS = 26;
    private static final int FIRST_LETTER = 6;
    private static final int LAST_LETTER = 31;
    /** Stands where a LETTER would stand: no SIGN is below 0, so none is ever taken for it. */
    private static final int ESCAPE = -1;
    private static final int LAST_WORD = 32768;

    private final int version;
    private final Row memory;
    private final Row row;
    private final Row entries;
    private final Row told;
    private final Row spelled;
    private final Alphabets alphabets;
    private final Teller teller;
    private final Abbreviator abbreviator;
    private final Dictionary dictionary;
    private final Parting parting;
    private int behind;

    public ZText(int version) {
        this.version = Math.max(1, Math.min(8, version));
        memory = new Row(MOST_BYTES);
        row = new Row(MOST_SIGNS);
        entries = new Row(ENTRIES);
        for (int i = 0; i < ENTRIES; i++) {
            entries.add(NONE_SUCH);
        }
        told = new Row(MOST_SIGNS);
        spelled = new Row(MOST_NUMBERS);
        alphabets = new Alphabets(this.version);
        teller = new Teller(this.version, alphabets, memory, entries, told);
        abbreviator = new Abbreviator(this.version, alphabets, entries, teller, told);
        dictionary = new Dictionary(this.version, alphabets);
        parting = new Parting(dictionary);
        behind = 0;
    }

    public int version() {
        return version;
    }

    // ---- memory, the row

    public int feed(long v, int n) {
        return addBytes(memory, v, n);
    }

    public int byteAt(int i) {
        return memory.has(i) ? memory.get(i) : NONE_SUCH;
    }

    public int poke(int i, int b) {
        if (!memory.has(i)) {
            return NONE_SUCH;
        }
        if (b < 0 || b > 255) {
            return OUTSIDE;
        }
        return memory.replace(i, b);
    }

    public int keep(int n) {
        int had = memory.count();
        if (n < 0 || n > had) {
            return OUTSIDE;
        }
        memory.cut(n);
        return had;
    }

    public int sign(int c) {
        if (c == -1) {
            row.cut(0);
            return 0;
        }
        if (!isSign(c)) {
            return OUTSIDE;
        }
        return row.add(c) ? row.count() : NO_ROOM;
    }

    public int type(long v, int n) {
        return addBytes(row, v, n);
    }

    public int size() {
        return row.count();
    }

    public int at(int i) {
        return row.has(i) ? row.get(i) : NONE_SUCH;
    }

    // ---- alphabets, abbreviations

    public int alphabet(int alphabet, int number, int c) {
        if (version < 5) {
            return NOT_IN_VERSION;
        }
        if (!alphabets.mayChange(alphabet, number)) {
            return NONE_SUCH;
        }
        if (!isSign(c)) {
            return OUTSIDE;
        }
        return alphabets.change(alphabet, number, c);
    }

    public int entry(int i, int place) {
        if (!entries.has(i)) {
            return NONE_SUCH;
        }
        if (place < -1 || place > MOST_BYTES) {
            return OUTSIDE;
        }
        return entries.replace(i, place);
    }

    // ---- telling and making

    public int tell(int place) {
        if (place < 0 || place > MOST_BYTES) {
            return OUTSIDE;
        }
        // The ROW must stay as it is when a FAULT comes: the telling goes to a row of its own first.
        told.cut(0);
        int end = teller.tellText(place);
        if (end < 0) {
            behind = 0;
            return FAULTY + end;
        }
        behind = end;
        row.become(told);
        return row.count();
    }

    public int behind() {
        return behind;
    }

    public int numbers(int how) {
        if (how != 0 && how != 1) {
            return OUTSIDE;
        }
        spellRow(how);
        return spelled.count();
    }

    public int make(int how) {
        if (how != 0 && how != 1) {
            return OUTSIDE;
        }
        spellRow(how);
        padSpelled();
        int place = memory.count();
        if (!memory.hasRoom(spelled.count() / 3 * 2)) {
            return NO_ROOM;
        }
        writeSpelled();
        return place;
    }

    // ---- dictionary, parting

    public int word() {
        return dictionary.number(dictionary.wordOf(row, 0, row.count(), false));
    }

    public int wordByte(int k, int i) {
        return dictionary.byteOf(k, i);
    }

    public int words() {
        return dictionary.count();
    }

    public int separator(int c, boolean is) {
        if (!isSign(c) || c == SPACE) {
            return OUTSIDE;
        }
        return parting.separate(c, is) ? 1 : 0;
    }

    public int part() {
        return parting.partRow(row);
    }

    public int token(int k, int what) {
        return parting.tokenValue(k, what);
    }

    private static boolean isSign(int c) {
        return c >= 0 && c < SIGN_CODES;
    }

    private static int addBytes(Row to, long v, int n) {
        if (n < 0 || n > 8) {
            return OUTSIDE;
        }
        if (!to.hasRoom(n)) {
            return NO_ROOM;
        }
        for (int k = n - 1; k >= 0; k--) {
            to.add((int) (v >> 8 * k) & 255);
        }
        return to.count();
    }

    private void spellRow(int how) {
        spelled.cut(0);
        if (how == 1) {
            abbreviator.findEntries(row);
            abbreviator.choose(row);
            abbreviator.spellChosen(row, spelled);
            return;
        }
        for (int i = 0; i < row.count(); i++) {
            alphabets.spell(row.get(i), spelled);
        }
    }

    private void padSpelled() {
        int lacking = spelled.count() == 0 ? 3 : (3 - spelled.count() % 3) % 3;
        for (int k = 0; k < lacking; k++) {
            spelled.add(PAD);
        }
    }

    private void writeSpelled() {
        for (int k = 0; k < spelled.count(); k += 3) {
            int two = spelled.get(k) << 10 | spelled.get(k + 1) << 5 | spelled.get(k + 2);
            if (k + 3 >= spelled.count()) {
                two |= LAST_WORD;
            }
            memory.add(two >> 8);
            memory.add(two & 255);
        }
    }

    /** Numbers one behind another, up to a most; made once and used again, so that calls make nothing. */
    private static final class Row {
        private final int[] items;
        private int count;

        Row(int most) {
            items = new int[Math.max(0, most)];
            count = 0;
        }

        int count() {
            return count;
        }

        boolean has(int i) {
            return i >= 0 && i < count;
        }

        boolean hasRoom(int n) {
            return n <= items.length - count;
        }

        int get(int i) {
            return has(i) ? items[i] : NONE_SUCH;
        }

        int replace(int i, int item) {
            if (!has(i)) {
                return NONE_SUCH;
            }
            int was = items[i];
            items[i] = item;
            return was;
        }

        boolean add(int item) {
            if (count >= items.length) {
                return false;
            }
            items[count] = item;
            count++;
            return true;
        }

        void cut(int n) {
            if (n >= 0 && n < count) {
                count = n;
            }
        }

        void become(Row other) {
            count = Math.min(other.count, items.length);
            System.arraycopy(other.items, 0, items, 0, count);
        }

        /** Whether all of another row stands here from place i on. */
        boolean showsAt(int i, Row other) {
            if (i < 0 || i > count - other.count) {
                return false;
            }
            for (int k = 0; k < other.count; k++) {
                if (items[i + k] != other.items[k]) {
                    return false;
                }
            }
            return true;
        }
    }

    /** The three ALPHABETS, and the numbers that a SIGN alone becomes. */
    private static final class Alphabets {
        private static final int[] OLD_THIRD = {
            ESCAPE, 48, 49, 50, 51, 52, 53, 54, 55, 56, 57, 46, 44,
            33, 63, 95, 35, 39, 34, 47, 92, 60, 45, 58, 40, 41
        };
        private static final int[] THIRD = {
            ESCAPE, NEW_LINE, 48, 49, 50, 51, 52, 53, 54, 55, 56, 57, 46,
            44, 33, 63, 95, 35, 39, 34, 47, 92, 45, 58, 40, 41
        };

        private final int version;
        private final int[] letters;

        Alphabets(int version) {
            this.version = version;
            letters = new int[3 * LETTERS];
            for (int k = 0; k < LETTERS; k++) {
                letters[k] = 'a' + k;
                letters[LETTERS + k] = 'A' + k;
            }
            System.arraycopy(version == 1 ? OLD_THIRD : THIRD, 0, letters, 2 * LETTERS, LETTERS);
        }

        boolean mayChange(int alphabet, int number) {
            return isLetter(alphabet, number) && (alphabet != 2 || number > FIRST_LETTER + 1);
        }

        int change(int alphabet, int number, int c) {
            if (!mayChange(alphabet, number)) {
                return NONE_SUCH;
            }
            int k = LETTERS * alphabet + number - FIRST_LETTER;
            int was = letters[k];
            letters[k] = c;
            return was;
        }

        int letterFor(int alphabet, int number) {
            int k = LETTERS * alphabet + number - FIRST_LETTER;
            return k >= 0 && k < letters.length ? letters[k] : ESCAPE;
        }

        void spell(int sign, Row out) {
            if (sign == SPACE) {
                out.add(0);
                return;
            }
            if (sign == NEW_LINE && version == 1) {
                out.add(1);
                return;
            }
            int k = firstLetter(sign);
            if (k < 0) {
                spellCode(sign, out);
                return;
            }
            if (k >= LETTERS) {
                out.add(shiftTo(k / LETTERS));
            }
            out.add(FIRST_LETTER + k % LETTERS);
        }

        private static boolean isLetter(int alphabet, int number) {
            return alphabet >= 0 && alphabet <= 2 && number >= FIRST_LETTER && number <= LAST_LETTER;
        }

        private int firstLetter(int sign) {
            for (int k = 0; k < letters.length; k++) {
                if (letters[k] == sign) {
                    return k;
                }
            }
            return NONE_SUCH;
        }

        private void spellCode(int sign, Row out) {
            out.add(shiftTo(2));
            out.add(FIRST_LETTER);
            out.add(sign / 32);
            out.add(sign % 32);
        }

        private int shiftTo(int alphabet) {
            return version <= 2 ? 1 + alphabet : 3 + alphabet;
        }
    }

    /** What each number means behind those that came before it in one text. */
    private static final class Reading {
        /** Answers of take() that are no SIGN; FIRST_ENTRY and above: the ABBREVIATION of an ENTRY. */
        private static final int NOTHING = -1;
        private static final int ABBREVIATION_BEGINS = -2;
        private static final int FIRST_ENTRY = SIGN_CODES;

        private static final int FREE = 0;
        private static final int FOR_ENTRY = 1;
        private static final int FOR_HIGH = 2;
        private static final int FOR_LOW = 3;
        private static final int NO_ALPHABET = -1;

        private final int version;
        private final Alphabets alphabets;
        private int locked;
        private int once;
        private int awaited;
        private int held;

        Reading(int version, Alphabets alphabets) {
            this.version = version;
            this.alphabets = alphabets;
            begin();
        }

        void begin() {
            locked = 0;
            once = NO_ALPHABET;
            awaited = FREE;
            held = 0;
        }

        int take(int number) {
            switch (awaited) {
                case FOR_ENTRY:
                    awaited = FREE;
                    return FIRST_ENTRY + held + number;
                case FOR_HIGH:
                    awaited = FOR_LOW;
                    held = 32 * number;
                    return NOTHING;
                case FOR_LOW:
                    awaited = FREE;
                    return held + number;
                default:
                    return takeFree(number);
            }
        }

        private int takeFree(int number) {
            int alphabet = once == NO_ALPHABET ? locked : once;
            once = NO_ALPHABET;
            if (number == 0) {
                return SPACE;
            }
            if (number >= FIRST_LETTER) {
                int letter = alphabets.letterFor(alphabet, number);
                awaited = letter == ESCAPE ? FOR_HIGH : FREE;
                return letter == ESCAPE ? NOTHING : letter;
            }
            if (number == 1 && version == 1) {
                return NEW_LINE;
            }
            if (number == 1 || number <= 3 && version >= 3) {
                awaited = FOR_ENTRY;
                held = 32 * (number - 1);
                return ABBREVIATION_BEGINS;
            }
            shift(number);
            return NOTHING;
        }

        private void shift(int number) {
            if (version >= 3) {
                once = number - 3;
            } else if (number <= 3) {
                once = (locked + number - 1) % 3;
            } else {
                locked = (locked + number - 3) % 3;
            }
        }
    }

    /** Tells texts of MEMORY, with what their ABBREVIATIONS tell, behind a row of SIGNS. */
    private static final class Teller {
        private final Row memory;
        private final Row entries;
        private final Row told;
        private final Reading whole;
        private final Reading abbreviation;

        Teller(int version, Alphabets alphabets, Row memory, Row entries, Row told) {
            this.memory = memory;
            this.entries = entries;
            this.told = told;
            whole = new Reading(version, alphabets);
            abbreviation = new Reading(version, alphabets);
        }

        /** The place behind the text's last WORD, or less than 0: a FAULT. */
        int tellText(int place) {
            return tellFrom(place, 0);
        }

        /** As tellText(), for a text that stands within another: an ABBREVIATION in it is a FAULT. */
        int tellAbbreviation(int place) {
            return tellFrom(place, 1);
        }

        /** Depth 1 is in an ABBREVIATION, and follow() lets none go deeper. */
        private int tellFrom(int place, int depth) {
            Reading reading = depth == 0 ? whole : abbreviation;
            reading.begin();
            for (int p = place; p + 1 < memory.count(); p += 2) {
                int two = memory.get(p) << 8 | memory.get(p + 1);
                for (int bits = 10; bits >= 0; bits -= 5) {
                    int fault = follow(reading.take(two >> bits & 31), depth);
                    if (fault != 0) {
                        return -fault;
                    }
                }
                if (two >= LAST_WORD) {
                    return p + 2;
                }
            }
            return -FAULT_MEMORY;
        }

        /** Does what a number means: 0, or the FAULT that comes with it. */
        private int follow(int meaning, int depth) {
            if (meaning == Reading.NOTHING) {
                return 0;
            }
            if (meaning >= 0 && meaning < Reading.FIRST_ENTRY) {
                return told.add(meaning) ? 0 : FAULT_SIGNS;
            }
            if (depth > 0) {
                return FAULT_WITHIN;
            }
            if (meaning == Reading.ABBREVIATION_BEGINS) {
                return 0;
            }
            int place = entries.get(meaning - Reading.FIRST_ENTRY);
            if (place < 0) {
                return FAULT_PLACE;
            }
            return Math.max(0, -tellFrom(place, depth + 1));
        }
    }

    /** Finds the BEST numbers of THE ROW: fewest[i] is how few its SIGNS from i on can have. */
    private static final class Abbreviator {
        private static final int ITSELF = -1;

        private final Alphabets alphabets;
        private final Row entries;
        private final Teller teller;
        private final Row told;
        private final int usable;
        private final int[] lengths;
        /** Three for each SIGN, 32 ENTRIES in each: a bit tells that what the ENTRY tells stands there. */
        private final int[] stands;
        private final int[] fewest;
        private final int[] chosen;
        private final Row alone;

        Abbreviator(int version, Alphabets alphabets, Row entries, Teller teller, Row told) {
            this.alphabets = alphabets;
            this.entries = entries;
            this.teller = teller;
            this.told = told;
            usable = version == 1 ? 0 : version == 2 ? 32 : ENTRIES;
            lengths = new int[ENTRIES];
            stands = new int[3 * MOST_SIGNS];
            fewest = new int[MOST_SIGNS + 1];
            chosen = new int[MOST_SIGNS];
            alone = new Row(4);
        }

        void findEntries(Row row) {
            Arrays.fill(stands, 0);
            for (int e = 0; e < usable; e++) {
                told.cut(0);
                int place = entries.get(e);
                if (place >= 0 && teller.tellAbbreviation(place) >= 0 && told.count() > 0) {
                    lengths[e] = told.count();
                    mark(e, row);
                }
            }
        }

        void choose(Row row) {
            int signs = Math.min(row.count(), MOST_SIGNS);
            fewest[signs] = 0;
            for (int i = signs - 1; i >= 0; i--) {
                alone.cut(0);
                alphabets.spell(row.get(i), alone);
                fewest[i] = alone.count() + fewest[i + 1];
                chosen[i] = ITSELF;
                chooseEntry(i, signs, row.get(i) == SPACE);
            }
        }

        void spellChosen(Row row, Row out) {
            int signs = Math.min(row.count(), MOST_SIGNS);
            int next = 0;
            for (int i = 0; i < signs; i++) {
                if (i < next) {
                    continue;
                }
                int e = chosen[i];
                if (e >= 0 && e < ENTRIES) {
                    out.add(1 + e / 32);
                    out.add(e % 32);
                    next = i + lengths[e];
                } else {
                    alphabets.spell(row.get(i), out);
                }
            }
        }

        private void mark(int e, Row row) {
            int signs = Math.min(row.count(), MOST_SIGNS);
            for (int i = 0; i < signs; i++) {
                if (row.showsAt(i, told)) {
                    stands[3 * i + e / 32] |= 1 << e % 32;
                }
            }
        }

        /**
         * Of rows that are equally short the first number decides: 0 is less than any ABBREVIATION's, all
         * other numbers that a SIGN can begin with are more, and lower ENTRIES have lower numbers.
         */
        private void chooseEntry(int i, int signs, boolean isSpace) {
            for (int e = 0; e < usable; e++) {
                int next = i + lengths[e];
                if ((stands[3 * i + e / 32] >> e % 32 & 1) == 0 || next > signs) {
                    continue;
                }
                int needed = 2 + fewest[next];
                boolean asFewButLess = needed == fewest[i] && chosen[i] == ITSELF && !isSpace;
                if (needed < fewest[i] || asFewButLess) {
                    fewest[i] = needed;
                    chosen[i] = e;
                }
            }
        }
    }

    /** WORDS, each held as its numbers in one long, five bits each: equal longs are equal WORDS. */
    private static final class Dictionary {
        private static final int MOST_LENGTH = 9;

        private final Alphabets alphabets;
        private final int length;
        private final long[] words;
        private final Row first;
        private int count;

        Dictionary(int version, Alphabets alphabets) {
            this.alphabets = alphabets;
            length = version <= 3 ? 6 : MOST_LENGTH;
            words = new long[MOST_WORDS];
            // A SIGN that begins before the cut may bring three numbers behind it.
            first = new Row(MOST_LENGTH + 3);
            count = 0;
        }

        int count() {
            return count;
        }

        /** The WORD that would be made of the SIGNS from one place up to another. */
        long wordOf(Row row, int from, int to, boolean small) {
            first.cut(0);
            for (int i = from; i < to && first.count() < length; i++) {
                int sign = row.get(i);
                boolean isCapital = sign >= 'A' && sign <= 'Z';
                alphabets.spell(small && isCapital ? sign + 32 : sign, first);
            }
            long word = 0;
            for (int k = 0; k < length; k++) {
                word = word << 5 | (first.has(k) ? first.get(k) : PAD);
            }
            return word;
        }

        int find(long word) {
            for (int k = 0; k < count; k++) {
                if (words[k] == word) {
                    return k;
                }
            }
            return NONE_SUCH;
        }

        /** The number of a WORD, which is added if it is new. */
        int number(long word) {
            int known = find(word);
            if (known >= 0) {
                return known;
            }
            if (count >= words.length) {
                return NO_ROOM;
            }
            words[count] = word;
            count++;
            return count - 1;
        }

        int byteOf(int k, int i) {
            int pairs = length / 3;
            if (k < 0 || k >= count || i < 0 || i >= 2 * pairs) {
                return NONE_SUCH;
            }
            int behindIt = pairs - 1 - i / 2;
            int two = (int) (words[k] >> 15 * behindIt) & 32767;
            if (behindIt == 0) {
                two |= LAST_WORD;
            }
            return i % 2 == 0 ? two >> 8 : two & 255;
        }
    }

    /** SEPARATORS, and the TOKENS of the latest parting. */
    private static final class Parting {
        private final Dictionary dictionary;
        private final boolean[] separators;
        private final Row places;
        private final Row lengths;
        private final Row words;

        Parting(Dictionary dictionary) {
            this.dictionary = dictionary;
            separators = new boolean[SIGN_CODES];
            places = new Row(MOST_SIGNS);
            lengths = new Row(MOST_SIGNS);
            words = new Row(MOST_SIGNS);
        }

        /** Whether the SIGN was a SEPARATOR until now. */
        boolean separate(int c, boolean is) {
            boolean was = isSeparator(c);
            if (isSign(c)) {
                separators[c] = is;
            }
            return was;
        }

        int partRow(Row row) {
            places.cut(0);
            lengths.cut(0);
            words.cut(0);
            int from = 0;
            for (int i = 0; i < row.count(); i++) {
                int sign = row.get(i);
                if (sign == SPACE || isSeparator(sign)) {
                    addToken(row, from, i);
                    from = sign == SPACE ? i + 1 : i;
                }
                if (isSeparator(sign)) {
                    addToken(row, i, i + 1);
                    from = i + 1;
                }
            }
            addToken(row, from, row.count());
            return places.count();
        }

        int tokenValue(int k, int what) {
            if (!places.has(k)) {
                return NONE_SUCH;
            }
            switch (what) {
                case 0:
                    return places.get(k);
                case 1:
                    return lengths.get(k);
                case 2:
                    return words.get(k);
                default:
                    return OUTSIDE;
            }
        }

        private boolean isSeparator(int sign) {
            return isSign(sign) && separators[sign];
        }

        private void addToken(Row row, int from, int to) {
            if (from >= to) {
                return;
            }
            places.add(from);
            lengths.add(to - from);
            words.add(dictionary.find(dictionary.wordOf(row, from, to, true)));
        }
    }
}
