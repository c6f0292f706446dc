import java.util.ArrayList;
import java.util.List;

/**
 * A ZText whose calls are counted: the document promises nothing behind the 512th call of an object, so
 * a test that asked for more would ask for what is free.
 */
final class Watched {
    static final int MOST_CALLS = 512;

    private final ZText z;
    private int calls = 0;

    Watched(int version) {
        z = new ZText(version);
    }

    private ZText call() {
        if (calls == MOST_CALLS) {
            throw new IllegalStateException("the test makes more than 512 calls on one object");
        }
        calls++;
        return z;
    }

    int callsLeft() {
        return MOST_CALLS - calls;
    }

    // ---- the face

    int version() {
        return call().version();
    }

    int feed(long v, int n) {
        return call().feed(v, n);
    }

    int byteAt(int i) {
        return call().byteAt(i);
    }

    int poke(int i, int b) {
        return call().poke(i, b);
    }

    int keep(int n) {
        return call().keep(n);
    }

    int sign(int c) {
        return call().sign(c);
    }

    int type(long v, int n) {
        return call().type(v, n);
    }

    int size() {
        return call().size();
    }

    int at(int i) {
        return call().at(i);
    }

    int alphabet(int alphabet, int number, int c) {
        return call().alphabet(alphabet, number, c);
    }

    int entry(int i, int place) {
        return call().entry(i, place);
    }

    int tell(int place) {
        return call().tell(place);
    }

    int behind() {
        return call().behind();
    }

    int numbers(int how) {
        return call().numbers(how);
    }

    int make(int how) {
        return call().make(how);
    }

    int word() {
        return call().word();
    }

    int wordByte(int k, int i) {
        return call().wordByte(k, i);
    }

    int words() {
        return call().words();
    }

    int separator(int c, boolean is) {
        return call().separator(c, is);
    }

    int part() {
        return call().part();
    }

    int token(int k, int what) {
        return call().token(k, what);
    }

    // ---- THE ROW

    void setRow(String text) {
        sign(-1);
        addRow(text);
    }

    /** Eight SIGNS in a call where it can be: calls are few. */
    void addRow(String text) {
        for (int from = 0; from < text.length(); from += 8) {
            String piece = text.substring(from, Math.min(text.length(), from + 8));
            if (piece.chars().allMatch(c -> c < 256)) {
                type(bytes(piece), piece.length());
            } else {
                piece.chars().forEach(this::sign);
            }
        }
    }

    private static long bytes(String text) {
        long v = 0;
        for (char c : text.toCharArray()) {
            v = v << 8 | c;
        }
        return v;
    }

    String row() {
        int size = size();
        StringBuilder s = new StringBuilder();
        for (int i = 0; i < size; i++) {
            s.append((char) at(i));
        }
        return s.toString();
    }

    void fillRow(int size) {
        addRow("a".repeat(size - size()));
    }

    // ---- MEMORY

    int memory() {
        return feed(0, 0);
    }

    void fillMemory(int size) {
        for (int has = memory(); has < size; has += 8) {
            feed(0, Math.min(8, size - has));
        }
    }

    /** Puts numbers behind MEMORY as one text, with 5s behind them: the place where it begins. */
    int put(int... numbers) {
        return putText(true, numbers);
    }

    /** The same without a last WORD. */
    int putOpen(int... numbers) {
        return putText(false, numbers);
    }

    private int putText(boolean ends, int... numbers) {
        int place = memory();
        int pairs = Math.max(1, (numbers.length + 2) / 3);
        long v = 0;
        int waiting = 0;
        for (int p = 0; p < pairs; p++) {
            v = v << 16 | pair(numbers, 3 * p) | (ends && p == pairs - 1 ? 32768 : 0);
            waiting += 2;
            if (waiting == 8 || p == pairs - 1) {
                feed(v, waiting);
                waiting = 0;
            }
        }
        return place;
    }

    private static int pair(int[] numbers, int from) {
        int two = 0;
        for (int k = from; k < from + 3; k++) {
            two = two << 5 | (k < numbers.length ? numbers[k] : 5);
        }
        return two;
    }

    /** The numbers of the text at a place, up to its last WORD. */
    String numbersAt(int place) {
        List<Integer> numbers = new ArrayList<>();
        int high = byteAt(place);
        for (int p = place; high >= 0; p += 2) {
            int two = high << 8 | byteAt(p + 1);
            numbers.add(two >> 10 & 31);
            numbers.add(two >> 5 & 31);
            numbers.add(two & 31);
            high = two >= 32768 ? -1 : byteAt(p + 2);
        }
        return shown(numbers);
    }

    String made(int how) {
        return numbersAt(make(how));
    }

    /** An object whose ENTRIES from 0 on tell these texts (null: the ENTRY has no place). */
    static Watched withEntries(int version, String... texts) {
        Watched z = new Watched(version);
        for (int e = 0; e < texts.length; e++) {
            if (texts[e] != null) {
                z.setRow(texts[e]);
                z.entry(e, z.make(0));
            }
        }
        return z;
    }

    /** The numbers of a text's BEST row, without the 5s behind them. */
    String best(String text) {
        setRow(text);
        int needed = numbers(1);
        String[] numbers = made(1).split(" ");
        Due.is("15, 16: how many numbers, BEST, of " + text, numbers.length, Math.max(1, (needed + 2) / 3) * 3);
        StringBuilder s = new StringBuilder();
        for (int k = 0; k < Math.min(needed, numbers.length); k++) {
            s.append(k == 0 ? "" : " ").append(numbers[k]);
        }
        return s.toString();
    }

    /** What a tell answers: the SIGNS told, or its FAULT. */
    String told(int place) {
        int signs = tell(place);
        return signs >= 0 ? row() : "FAULT " + (-10 - signs);
    }

    static String shown(List<Integer> numbers) {
        StringBuilder s = new StringBuilder();
        for (int number : numbers) {
            s.append(s.length() == 0 ? "" : " ").append(number);
        }
        return s.toString();
    }
}
