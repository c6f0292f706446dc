import java.util.ArrayList;
import java.util.Arrays;
import java.util.Collections;
import java.util.HashSet;
import java.util.List;
import java.util.Random;
import java.util.Set;

/**
 * Runs of up to 512 calls on ZText and on a slow second program written from the document alone. The
 * seeds are fixed: every run of this test makes the same calls.
 */
public final class ModelTest {
    // ---- the second program

    private static final class Fault extends RuntimeException {
        private static final long serialVersionUID = 1L;
        final int fault;

        Fault(int fault) {
            super(null, null, false, false);
            this.fault = fault;
        }
    }

    /** The numbers of a text, read only as they are asked for; -1 when there are no more. */
    private static final class Numbers {
        private final List<Integer> memory;
        private final List<Integer> waiting = new ArrayList<>();
        private boolean lastSeen = false;
        int place;

        Numbers(List<Integer> memory, int place) {
            this.memory = memory;
            this.place = place;
        }

        int next() {
            if (waiting.isEmpty()) {
                if (lastSeen) {
                    return -1;
                }
                if (place + 2 > memory.size()) {
                    throw new Fault(2);
                }
                int two = memory.get(place) * 256 + memory.get(place + 1);
                place += 2;
                lastSeen = two / 32768 == 1;
                waiting.add(two / 1024 % 32);
                waiting.add(two / 32 % 32);
                waiting.add(two % 32);
            }
            return waiting.remove(0);
        }
    }

    private static final class Model {
        final int version;
        List<Integer> memory = new ArrayList<>();
        List<Integer> row = new ArrayList<>();
        final int[][] letters = new int[3][32];
        final int[] places = new int[96];
        final List<List<Integer>> dictionary = new ArrayList<>();
        final Set<Integer> separators = new HashSet<>();
        List<int[]> tokens = new ArrayList<>();
        int behind = 0;

        Model(int version) {
            this.version = version < 1 ? 1 : version > 8 ? 8 : version;
            Arrays.fill(places, -1);
            String third = this.version == 1 ? "\u07ff0123456789.,!?_#'\"/\\<-:()"
                : "\u07ff\r0123456789.,!?_#'\"/\\-:()";
            for (int n = 6; n <= 31; n++) {
                letters[0][n] = "abcdefghijklmnopqrstuvwxyz".charAt(n - 6);
                letters[1][n] = "ABCDEFGHIJKLMNOPQRSTUVWXYZ".charAt(n - 6);
                letters[2][n] = third.charAt(n - 6);
            }
        }

        int bytes(List<Integer> to, int most, long v, int n) {
            if (n < 0 || n > 8) {
                return -2;
            }
            if (to.size() + n > most) {
                return -4;
            }
            for (int k = 0; k < n; k++) {
                to.add((int) (v >>> 8 * (n - 1 - k) & 0xFF));
            }
            return to.size();
        }

        int byteAt(int i) {
            return i < 0 || i >= memory.size() ? -1 : memory.get(i);
        }

        int poke(int i, int b) {
            if (i < 0 || i >= memory.size()) {
                return -1;
            }
            return b < 0 || b > 255 ? -2 : memory.set(i, b);
        }

        int keep(int n) {
            if (n < 0 || n > memory.size()) {
                return -2;
            }
            int had = memory.size();
            memory = new ArrayList<>(memory.subList(0, n));
            return had;
        }

        int sign(int c) {
            if (c < -1 || c > 1023) {
                return -2;
            }
            if (c == -1) {
                row.clear();
                return 0;
            }
            if (row.size() == 1000) {
                return -4;
            }
            row.add(c);
            return row.size();
        }

        int at(int i) {
            return i < 0 || i >= row.size() ? -1 : row.get(i);
        }

        int alphabet(int a, int n, int c) {
            if (version < 5) {
                return -3;
            }
            if (a < 0 || a > 2 || n < 6 || n > 31 || a == 2 && n < 8) {
                return -1;
            }
            if (c < 0 || c > 1023) {
                return -2;
            }
            int was = letters[a][n];
            letters[a][n] = c;
            return was;
        }

        int entry(int i, int place) {
            if (i < 0 || i > 95) {
                return -1;
            }
            if (place < -1 || place > 3000) {
                return -2;
            }
            int was = places[i];
            places[i] = place;
            return was;
        }

        void emit(List<Integer> out, int sign) {
            if (out.size() == 1000) {
                throw new Fault(4);
            }
            out.add(sign);
        }

        int telling(int place, boolean within, List<Integer> out) {
            Numbers numbers = new Numbers(memory, place);
            int locked = 0;
            int shifted = 0;
            for (int n = numbers.next(); n >= 0; n = numbers.next()) {
                int alphabet = (locked + shifted) % 3;
                shifted = 0;
                boolean abbreviation = version == 2 ? n == 1 : version > 2 && n >= 1 && n <= 3;
                if (n == 0) {
                    emit(out, 32);
                } else if (abbreviation) {
                    if (within) {
                        throw new Fault(1);
                    }
                    int x = numbers.next();
                    if (x >= 0) {
                        int from = places[(n - 1) * 32 + x];
                        if (from == -1) {
                            throw new Fault(3);
                        }
                        telling(from, true, out);
                    }
                } else if (n == 1) {
                    emit(out, 13);
                } else if (n < 6 && version < 3) {
                    if (n == 2 || n == 3) {
                        shifted = n == 2 ? 1 : 2;
                    } else {
                        locked = (locked + (n == 4 ? 1 : 2)) % 3;
                    }
                } else if (n < 6) {
                    shifted = n == 4 ? 1 : 2;
                } else if (n == 6 && alphabet == 2) {
                    int high = numbers.next();
                    int low = high < 0 ? -1 : numbers.next();
                    if (low >= 0) {
                        emit(out, 32 * high + low);
                    }
                } else {
                    emit(out, letters[alphabet][n]);
                }
            }
            return numbers.place;
        }

        int tell(int place) {
            if (place < 0 || place > 3000) {
                return -2;
            }
            try {
                List<Integer> out = new ArrayList<>();
                behind = telling(place, false, out);
                row = out;
                return row.size();
            } catch (Fault f) {
                behind = 0;
                return -10 - f.fault;
            }
        }

        List<Integer> spell(int sign) {
            if (sign == 32) {
                return List.of(0);
            }
            if (sign == 13 && version == 1) {
                return List.of(1);
            }
            int up = version < 3 ? 2 : 4;
            for (int a = 0; a < 3; a++) {
                for (int n = 6; n < 32; n++) {
                    if (letters[a][n] == sign && !(a == 2 && n == 6)) {
                        return a == 0 ? List.of(n) : List.of(up + a - 1, n);
                    }
                }
            }
            return List.of(up + 1, 6, sign / 32, sign % 32);
        }

        List<Integer> plain(List<Integer> signs) {
            List<Integer> all = new ArrayList<>();
            for (int sign : signs) {
                all.addAll(spell(sign));
            }
            return all;
        }

        static boolean isBetter(List<Integer> one, List<Integer> other) {
            if (one.size() != other.size()) {
                return one.size() < other.size();
            }
            for (int k = 0; k < one.size(); k++) {
                int difference = one.get(k) - other.get(k);
                if (difference != 0) {
                    return difference < 0;
                }
            }
            return false;
        }

        List<List<Integer>> entryTexts() {
            List<List<Integer>> texts = new ArrayList<>();
            int usable = version == 1 ? 0 : version == 2 ? 32 : 96;
            for (int e = 0; e < usable; e++) {
                List<Integer> text = new ArrayList<>();
                if (places[e] >= 0) {
                    try {
                        telling(places[e], true, text);
                    } catch (Fault f) {
                        text.clear();
                    }
                }
                texts.add(text);
            }
            return texts;
        }

        /** The whole best row of numbers from every SIGN on, compared as rows. */
        List<Integer> best() {
            List<List<Integer>> texts = entryTexts();
            List<List<Integer>> from = new ArrayList<>();
            for (int i = 0; i <= row.size(); i++) {
                from.add(new ArrayList<>());
            }
            for (int i = row.size() - 1; i >= 0; i--) {
                List<Integer> least = new ArrayList<>(spell(row.get(i)));
                least.addAll(from.get(i + 1));
                for (int e = 0; e < texts.size(); e++) {
                    int length = texts.get(e).size();
                    if (length == 0 || i + length > row.size()
                        || !row.subList(i, i + length).equals(texts.get(e))) {
                        continue;
                    }
                    List<Integer> other = new ArrayList<>(List.of(e / 32 + 1, e % 32));
                    other.addAll(from.get(i + length));
                    if (isBetter(other, least)) {
                        least = other;
                    }
                }
                from.set(i, least);
            }
            return from.get(0);
        }

        /** Every row of numbers there is, without any thought; only for short rows. */
        List<Integer> bestOfAll(int i, List<Integer> before, List<List<Integer>> texts, List<Integer> least) {
            if (i == row.size()) {
                return least == null || isBetter(before, least) ? new ArrayList<>(before) : least;
            }
            int mark = before.size();
            before.addAll(spell(row.get(i)));
            least = bestOfAll(i + 1, before, texts, least);
            before.subList(mark, before.size()).clear();
            for (int e = 0; e < texts.size(); e++) {
                int length = texts.get(e).size();
                if (length > 0 && i + length <= row.size()
                    && row.subList(i, i + length).equals(texts.get(e))) {
                    before.add(e / 32 + 1);
                    before.add(e % 32);
                    least = bestOfAll(i + length, before, texts, least);
                    before.subList(mark, before.size()).clear();
                }
            }
            return least;
        }

        int numbers(int how) {
            return how == 0 ? plain(row).size() : how == 1 ? best().size() : -2;
        }

        static List<Integer> inBytes(List<Integer> numbers) {
            List<Integer> out = new ArrayList<>();
            for (int k = 0; k < numbers.size(); k += 3) {
                int last = k + 3 == numbers.size() ? 1 : 0;
                int two = last * 32768 + numbers.get(k) * 1024 + numbers.get(k + 1) * 32 + numbers.get(k + 2);
                out.add(two / 256);
                out.add(two % 256);
            }
            return out;
        }

        int make(int how) {
            if (how < 0 || how > 1) {
                return -2;
            }
            List<Integer> numbers = new ArrayList<>(how == 0 ? plain(row) : best());
            while (numbers.isEmpty() || numbers.size() % 3 != 0) {
                numbers.add(5);
            }
            List<Integer> bytes = inBytes(numbers);
            if (memory.size() + bytes.size() > 3000) {
                return -4;
            }
            int place = memory.size();
            memory.addAll(bytes);
            return place;
        }

        List<Integer> wordOf(List<Integer> signs) {
            int length = version < 4 ? 6 : 9;
            List<Integer> numbers = plain(signs);
            while (numbers.size() < length) {
                numbers.add(5);
            }
            return inBytes(new ArrayList<>(numbers.subList(0, length)));
        }

        int word() {
            List<Integer> word = wordOf(row);
            if (dictionary.contains(word)) {
                return dictionary.indexOf(word);
            }
            if (dictionary.size() == 40) {
                return -4;
            }
            dictionary.add(word);
            return dictionary.size() - 1;
        }

        int wordByte(int k, int i) {
            if (k < 0 || k >= dictionary.size() || i < 0 || i >= dictionary.get(k).size()) {
                return -1;
            }
            return dictionary.get(k).get(i);
        }

        int separator(int c, boolean is) {
            if (c < 0 || c > 1023 || c == 32) {
                return -2;
            }
            return (is ? !separators.add(c) : separators.remove(c)) ? 1 : 0;
        }

        int part() {
            tokens = new ArrayList<>();
            int i = 0;
            while (i < row.size()) {
                int from = i;
                if (row.get(i) == 32) {
                    i++;
                    continue;
                }
                if (separators.contains(row.get(i))) {
                    i++;
                } else {
                    while (i < row.size() && row.get(i) != 32 && !separators.contains(row.get(i))) {
                        i++;
                    }
                }
                List<Integer> signs = new ArrayList<>();
                for (int sign : row.subList(from, i)) {
                    signs.add(sign >= 65 && sign <= 90 ? sign + 32 : sign);
                }
                tokens.add(new int[] {from, i - from, dictionary.indexOf(wordOf(signs))});
            }
            return tokens.size();
        }

        int token(int k, int what) {
            if (k < 0 || k >= tokens.size()) {
                return -1;
            }
            return what < 0 || what > 2 ? -2 : tokens.get(k)[what];
        }
    }

    // ---- the runs

    private static final int[] EDGES = {Integer.MIN_VALUE, -3001, -3, -2, -1, 0, 1, 2, 3, 5, 6, 7, 8, 9, 31, 32, 33,
        39, 40, 41, 95, 96, 255, 256, 999, 1000, 1001, 1023, 1024, 2999, 3000, 3001, Integer.MAX_VALUE};
    private static final String[] PIECES = {"a", "b", "ab", "ba", " ", " a", "the ", "lamp", "A", "The", "0", ".", ",",
        "@", "<", "\r", "abab", "go ", "LANTERN", "\u03e7", "aaaa", "lanternlight"};

    private final Random random;
    private final String name;
    private final Watched z;
    private final Model m;
    private int calls = 0;

    private ModelTest(long seed, int version) {
        random = new Random(seed);
        name = "seed " + seed + ", version " + version + ", call ";
        z = new Watched(version);
        m = new Model(version);
    }

    private int any(int bound) {
        return random.nextInt(8) == 0 ? EDGES[random.nextInt(EDGES.length)] : random.nextInt(Math.max(1, bound));
    }

    private String call(String what) {
        calls++;
        return name + calls + " " + what;
    }

    private void sign(int c) {
        Due.is(call("sign " + c), z.sign(c), m.sign(c));
    }

    private void type(String text) {
        if (text.chars().anyMatch(c -> c > 255) || text.length() > 8) {
            for (char c : text.toCharArray()) {
                sign(c);
            }
            return;
        }
        long v = random.nextLong();
        for (char c : text.toCharArray()) {
            v = v << 8 | c;
        }
        Due.is(call("type " + text), z.type(v, text.length()), m.bytes(m.row, 1000, v, text.length()));
    }

    private void feed(long v, int n) {
        Due.is(call("feed " + v + " " + n), z.feed(v, n), m.bytes(m.memory, 3000, v, n));
    }

    private void tell(int place) {
        Due.is(call("tell " + place), z.tell(place), m.tell(place));
        Due.is(call("behind"), z.behind(), m.behind);
    }

    private void make(int how) {
        Due.is(call("make " + how), z.make(how), m.make(how));
    }

    /** Bytes in which numbers that mean something, and last WORDS, are seen often. */
    private long bytes() {
        long v = 0;
        for (int k = 0; k < 4; k++) {
            long two = random.nextInt(4) == 0 ? 1 : 0;
            for (int j = 0; j < 3; j++) {
                int number = random.nextInt(3) == 0 ? random.nextInt(32) : random.nextInt(9);
                two = two << 5 | number;
            }
            v = v << 16 | two;
        }
        return v;
    }

    private void changeMemory() {
        switch (random.nextInt(8)) {
            case 0: {
                int i = any(m.memory.size());
                int b = any(256);
                Due.is(call("poke " + i + " " + b), z.poke(i, b), m.poke(i, b));
                break;
            }
            case 1: {
                int n = random.nextInt(6) == 0 ? any(m.memory.size() + 1)
                    : Math.max(0, m.memory.size() - random.nextInt(9));
                Due.is(call("keep " + n), z.keep(n), m.keep(n));
                break;
            }
            default:
                feed(bytes(), random.nextInt(10) == 0 ? any(10) : 2 * random.nextInt(5));
        }
    }

    private void changeRow() {
        int kind = random.nextInt(12);
        if (kind == 0) {
            sign(any(1024));
        } else if (kind <= 2) {
            sign(-1);
        } else if (kind == 3) {
            int n = any(10);
            long v = random.nextLong();
            Due.is(call("type " + v + " " + n), z.type(v, n), m.bytes(m.row, 1000, v, n));
        } else {
            type(PIECES[random.nextInt(PIECES.length)]);
        }
    }

    private void changeTables() {
        switch (random.nextInt(6)) {
            case 0: {
                int a = any(3);
                int n = 6 + any(26);
                int c = random.nextBoolean() ? any(1024) : PIECES[random.nextInt(PIECES.length)].charAt(0);
                Due.is(call("alphabet " + a + " " + n + " " + c), z.alphabet(a, n, c), m.alphabet(a, n, c));
                break;
            }
            case 1: {
                int c = random.nextBoolean() ? any(1024) : PIECES[random.nextInt(PIECES.length)].charAt(0);
                boolean is = random.nextInt(3) > 0;
                Due.is(call("separator " + c + " " + is), z.separator(c, is), m.separator(c, is));
                break;
            }
            default: {
                int e = random.nextInt(3) == 0 ? any(96) : random.nextInt(9) + 32 * random.nextInt(3);
                int place = random.nextInt(3) == 0 ? any(m.memory.size() + 1) : lastText();
                Due.is(call("entry " + e + " " + place), z.entry(e, place), m.entry(e, place));
            }
        }
    }

    /** A place from which a text ends soon, most likely. */
    private int lastText() {
        int end = m.memory.size();
        return Math.max(-1, end - 2 * (1 + random.nextInt(4)));
    }

    private void ask() {
        int i;
        int k;
        switch (random.nextInt(14)) {
            case 0:
                tell(any(m.memory.size()));
                break;
            case 1:
                tell(lastText());
                break;
            case 2:
            case 3:
                i = random.nextInt(20) == 0 ? any(3) : 1;
                Due.is(call("numbers " + i), z.numbers(i), m.numbers(i));
                break;
            case 4:
            case 5:
                make(random.nextInt(20) == 0 ? any(3) : random.nextInt(2));
                break;
            case 6:
                Due.is(call("word"), z.word(), m.word());
                break;
            case 7:
                k = any(m.dictionary.size() + 1);
                i = any(7);
                Due.is(call("wordByte " + k + " " + i), z.wordByte(k, i), m.wordByte(k, i));
                break;
            case 8:
                Due.is(call("part"), z.part(), m.part());
                break;
            case 9:
            case 10:
                k = any(m.tokens.size() + 1);
                i = any(4);
                Due.is(call("token " + k + " " + i), z.token(k, i), m.token(k, i));
                break;
            case 11:
                i = any(m.memory.size() + 1);
                Due.is(call("byteAt " + i), z.byteAt(i), m.byteAt(i));
                break;
            case 12:
                i = any(m.row.size() + 1);
                Due.is(call("at " + i), z.at(i), m.at(i));
                break;
            default:
                Due.is(call("size"), z.size(), m.row.size());
                Due.is(call("words"), z.words(), m.dictionary.size());
                Due.is(call("behind"), z.behind(), m.behind);
                Due.is(call("version"), z.version(), m.version);
        }
    }

    /** What can be seen of an object is the same; at places by chance where its calls are too few for all. */
    private void compareAll() {
        Due.is(call("memory"), z.memory(), m.memory.size());
        Due.is(call("size"), z.size(), m.row.size());
        Due.is(call("words"), z.words(), m.dictionary.size());
        List<int[]> looks = new ArrayList<>();
        for (int kind = 0; kind < 4; kind++) {
            int places = new int[] {m.memory.size(), m.row.size(), 7 * m.dictionary.size(), 3 * m.tokens.size()}[kind];
            for (int place = 0; place < places; place++) {
                looks.add(new int[] {kind, place});
            }
        }
        Collections.shuffle(looks, random);
        for (int[] look : looks.subList(0, Math.min(looks.size(), z.callsLeft()))) {
            compare(look[0], look[1]);
        }
    }

    private void compare(int kind, int place) {
        switch (kind) {
            case 0:
                Due.is(call("byteAt " + place), z.byteAt(place), m.byteAt(place));
                break;
            case 1:
                Due.is(call("at " + place), z.at(place), m.at(place));
                break;
            case 2:
                Due.is(call("wordByte of " + place), z.wordByte(place / 7, place % 7), m.wordByte(place / 7, place % 7));
                break;
            default:
                Due.is(call("token of " + place), z.token(place / 3, place % 3), m.token(place / 3, place % 3));
        }
    }

    private void run(int rowShare) {
        int length = 60 + random.nextInt(430);
        while (calls < length) {
            int kind = random.nextInt(rowShare + 8);
            if (kind < 2) {
                changeMemory();
            } else if (kind < 4) {
                changeTables();
            } else if (kind < 8) {
                ask();
            } else {
                changeRow();
            }
        }
        compareAll();
    }

    /** Short rows of few SIGNS with many ENTRIES that fit: BEST against every row of numbers there is. */
    private void runBest() {
        String few = new String[] {"ab", "a ", "aA ", "ab@ ", "aaab"}[random.nextInt(5)];
        int entries = 1 + random.nextInt(10);
        for (int k = 0; k < entries; k++) {
            sign(-1);
            shortRow(few, 1 + random.nextInt(4));
            int place = m.memory.size();
            make(0);
            int e = random.nextInt(m.version == 2 ? 40 : 96);
            Due.is(call("entry"), z.entry(e, place), m.entry(e, place));
        }
        for (int k = 0; k < 6; k++) {
            sign(-1);
            shortRow(few, random.nextInt(9));
            List<Integer> best = m.bestOfAll(0, new ArrayList<>(), m.entryTexts(), null);
            Due.is(name + "best is best", best.equals(m.best()) ? 1 : 0, 1);
            Due.is(call("numbers 1"), z.numbers(1), best.size());
            make(1);
        }
        compareAll();
    }

    private void shortRow(String few, int length) {
        for (int k = 0; k < length; k++) {
            sign(few.charAt(random.nextInt(few.length())));
        }
    }

    /** MEMORY and THE ROW up to their ends, ENTRIES all over MEMORY. */
    private void runFull() {
        for (int k = 0; k < 130; k++) {
            type("abaabbaa".substring(0, k < 120 ? 8 : 1 + random.nextInt(8)));
        }
        make(0);
        int half = m.memory.size() / 2;
        for (int k = 0; k < 60; k++) {
            int e = random.nextInt(96);
            int place = random.nextInt(3) == 0 ? random.nextInt(half * 2) : half * 2 - 2 * random.nextInt(40);
            Due.is(call("entry"), z.entry(e, place), m.entry(e, place));
        }
        for (int k = 0; k < 12; k++) {
            Due.is(call("numbers 1"), z.numbers(1), m.numbers(1));
            make(random.nextInt(2));
            feed(bytes() | 0x8000L, 8);
            tell(Math.max(0, m.memory.size() - 2 * random.nextInt(300)));
            tell(random.nextInt(half * 2));
            type("ab ab");
        }
        Due.is(call("part"), z.part(), m.part());
        compareAll();
    }

    public static void main(String[] args) {
        for (int version = 0; version <= 9; version++) {
            for (int seed = 0; seed < 120; seed++) {
                new ModelTest(seed, version).run(seed % 3 == 0 ? 4 : seed % 3 * 12);
                new ModelTest(10_000 + seed, version).runBest();
            }
            for (int seed = 0; seed < 8; seed++) {
                new ModelTest(20_000 + seed, version).runFull();
            }
        }
        Due.end();
    }
}
