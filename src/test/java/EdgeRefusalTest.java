import java.util.ArrayList;
import java.util.List;
import java.util.function.Consumer;
import java.util.function.Function;
import java.util.function.ToIntFunction;

/**
 * REFUSALS "change nothing" and are "the first that fits": each refused call of each promise is made on
 * one of two objects that are alike, and then all that can be seen of the two is compared. (A FAULT of
 * tell() does what promise 14 says: behind() is 0.)
 */
public final class EdgeRefusalTest {
    private static final int LEAST = Integer.MIN_VALUE;
    private static final int MOST = Integer.MAX_VALUE;
    private static final int STEP = 250;

    /** Views of an object, each in few enough calls; together they see all that is to be seen. */
    private static final List<Function<Watched, String>> VIEWS = views();

    private static List<Function<Watched, String>> views() {
        List<Function<Watched, String>> views = new ArrayList<>();
        views.add(EdgeRefusalTest::counts);
        views.add(EdgeRefusalTest::behind);
        views.add(EdgeRefusalTest::dictionary);
        views.add(EdgeRefusalTest::entries);
        views.add(EdgeRefusalTest::letters);
        views.add(EdgeRefusalTest::tokens);
        for (int from = 0; from < 3000; from += STEP) {
            int first = from;
            views.add(z -> each(first, 3000, z::byteAt));
        }
        for (int from = 0; from < 1024; from += STEP) {
            int first = from;
            views.add(z -> each(first, 1000, z::at));
            views.add(z -> each(first, 1024, c -> z.separator(c, false)));
        }
        return views;
    }

    private interface Look {
        int at(int i);
    }

    private static String each(int from, int bound, Look look) {
        StringBuilder s = new StringBuilder();
        for (int i = from; i < Math.min(from + STEP, bound); i++) {
            s.append(look.at(i)).append(' ');
        }
        return s.toString();
    }

    private static String counts(Watched z) {
        return z.version() + " " + z.memory() + " " + z.size() + " " + z.words() + " " + z.numbers(0) + " "
            + z.numbers(1);
    }

    private static String behind(Watched z) {
        return "behind " + z.behind();
    }

    private static String dictionary(Watched z) {
        return each(0, 240, k -> z.wordByte(k / 6, k % 6));
    }

    private static String entries(Watched z) {
        return each(0, 96, e -> z.entry(e, -1));
    }

    private static String letters(Watched z) {
        return each(0, 78, k -> z.alphabet(k / 26, 6 + k % 26, 1));
    }

    private static String tokens(Watched z) {
        return each(0, 200, k -> z.token(k / 3, k % 3)) + z.token(999, 0);
    }

    // ---- objects to begin with, of at most 260 calls

    private static Consumer<Watched> empty() {
        return z -> {
        };
    }

    /** Something in everything. */
    private static void some(Watched z) {
        z.setRow("abc");
        z.entry(0, z.make(0));
        z.setRow("Lamp, 12");
        z.entry(95, z.make(0));
        z.separator(',', true);
        z.separator(0, true);
        z.separator(1023, true);
        z.alphabet(0, 31, 500);
        z.alphabet(2, 31, 501);
        z.word();
        z.part();
        z.tell(0);
        z.word();
        z.addRow("abc xyz");
    }

    private static void fullRow(Watched z) {
        some(z);
        z.addRow("ab,d ".repeat(20));
        z.part();
        z.fillRow(1000);
    }

    private static void fullMemory(Watched z) {
        some(z);
        z.setRow("\u00ff".repeat(1000));
        z.make(0);
        while (z.feed(0x9357, 8) >= 0) {
            continue;
        }
        while (z.feed(7, 1) >= 0) {
            continue;
        }
        z.setRow("abc xyz, dear");
    }

    private static void fullDictionary(Watched z) {
        some(z);
        for (int k = 0; z.words() < 40; k++) {
            z.setRow("w" + (char) ('a' + k / 10) + (char) ('a' + k % 10));
            z.word();
        }
        z.setRow("a new one");
    }

    /** MEMORY ends with 0, 1, 2 or 3 bytes left. */
    private static Consumer<Watched> left(int bytes) {
        return z -> {
            fullMemory(z);
            z.keep(3000 - bytes);
        };
    }

    // ---- the comparison

    private static void refused(String call, int version, Consumer<Watched> begin, ToIntFunction<Watched> refusal,
        int answer) {
        for (Function<Watched, String> view : VIEWS) {
            Watched one = new Watched(version);
            Watched other = new Watched(version);
            begin.accept(one);
            begin.accept(other);
            Due.is(call, refusal.applyAsInt(other), answer);
            boolean fault = answer <= -10;
            String seen = view.apply(other);
            if (fault && seen.startsWith("behind")) {
                Due.is(call + ": promise 14", seen, "behind 0");
            } else {
                Due.is(call + " changes nothing", seen, view.apply(one));
            }
        }
    }

    /** A call that is refused whatever the object holds. */
    private static void refusedAlways(String call, ToIntFunction<Watched> refusal, int answer) {
        refused(call + " of a new object", 5, empty(), refusal, answer);
        refused(call, 3, EdgeRefusalTest::some, refusal, answer);
        refused(call, 5, EdgeRefusalTest::some, refusal, answer);
        refused(call + " with a full row", 5, EdgeRefusalTest::fullRow, refusal, answer);
        refused(call + " with full memory", 8, EdgeRefusalTest::fullMemory, refusal, answer);
        refused(call + " with a full dictionary", 2, EdgeRefusalTest::fullDictionary, refusal, answer);
    }

    // ---- the refused calls

    private static void promise3() {
        for (int n : new int[] {LEAST, -1, 9, MOST}) {
            refusedAlways("promise 3: feed(-1, " + n + ")", z -> z.feed(-1L, n), -2);
        }
        for (int bytes = 0; bytes < 8; bytes++) {
            int n = bytes + 1;
            refused("promise 3: feed(-1, " + n + ")", 5, left(bytes), z -> z.feed(-1L, n), -4);
            refused("promise 3: feed(-1, 8)", 1, left(bytes), z -> z.feed(-1L, 8), -4);
        }
    }

    private static void promise4And10() {
        for (int i : new int[] {LEAST, -1, 3000, MOST}) {
            refusedAlways("promise 4: byteAt(" + i + ")", z -> z.byteAt(i), -1);
            refusedAlways("promise 10: at(" + i + ")", z -> z.at(i), -1);
        }
    }

    private static void promise5() {
        for (int i : new int[] {LEAST, -1, 3000, MOST}) {
            refusedAlways("promise 5: poke(" + i + ", 1)", z -> z.poke(i, 1), -1);
            refusedAlways("promise 5: poke(" + i + ", 256)", z -> z.poke(i, 256), -1);
        }
        for (int b : new int[] {LEAST, -1, 256, MOST}) {
            refused("promise 5: poke(0, " + b + ")", 5, EdgeRefusalTest::some, z -> z.poke(0, b), -2);
            refused("promise 5: poke(2999, " + b + ")", 3, EdgeRefusalTest::fullMemory, z -> z.poke(2999, b), -2);
        }
    }

    private static void promise6() {
        for (int n : new int[] {LEAST, -1, 3001, MOST}) {
            refusedAlways("promise 6: keep(" + n + ")", z -> z.keep(n), -2);
        }
        refused("promise 6: keep(1)", 5, empty(), z -> z.keep(1), -2);
        refused("promise 6: keep(3000)", 5, left(1), z -> z.keep(3000), -2);
    }

    private static void promise7And8() {
        for (int c : new int[] {LEAST, -2, 1024, MOST}) {
            refusedAlways("promise 7: sign(" + c + ")", z -> z.sign(c), -2);
        }
        refused("promise 7: sign(65)", 5, EdgeRefusalTest::fullRow, z -> z.sign(65), -4);
        for (int n : new int[] {LEAST, -1, 9, MOST}) {
            refusedAlways("promise 8: type(-1, " + n + ")", z -> z.type(-1L, n), -2);
        }
        refused("promise 8: type(-1, 1)", 5, EdgeRefusalTest::fullRow, z -> z.type(-1L, 1), -4);
        refused("promise 8: type(-1, 8)", 5, EdgeRefusalTest::fullRow, z -> z.type(-1L, 8), -4);
        Consumer<Watched> nearlyFull = z -> {
            some(z);
            z.fillRow(995);
        };
        for (int n = 6; n <= 8; n++) {
            int bytes = n;
            refused("promise 8: type(-1, " + n + ")", 4, nearlyFull, z -> z.type(-1L, bytes), -4);
        }
    }

    private static void promise11() {
        for (int version = 1; version <= 4; version++) {
            refused("promise 11: version " + version, version, EdgeRefusalTest::some, z -> z.alphabet(0, 6, 1), -3);
            refused("promise 11: version " + version, version, EdgeRefusalTest::some, z -> z.alphabet(3, 6, 1), -3);
            refused("promise 11: version " + version, version, EdgeRefusalTest::some, z -> z.alphabet(0, 6, -1), -3);
        }
        int[][] none = {{-1, 6}, {3, 6}, {LEAST, 6}, {MOST, 6}, {0, 5}, {0, 32}, {1, 5}, {1, 32}, {2, 5}, {2, 6}, {2, 7},
            {2, 32}, {0, LEAST}, {1, MOST}, {-1, 32}, {1, -20}, {1, 58}, {2, -20}};
        for (int[] letter : none) {
            String call = "promise 11: alphabet(" + letter[0] + ", " + letter[1] + ", ";
            refused(call + "1)", 5, EdgeRefusalTest::some, z -> z.alphabet(letter[0], letter[1], 1), -1);
            refused(call + "1024)", 8, EdgeRefusalTest::some, z -> z.alphabet(letter[0], letter[1], 1024), -1);
        }
        for (int c : new int[] {LEAST, -1, 1024, MOST}) {
            refused("promise 11: c = " + c, 5, EdgeRefusalTest::some, z -> z.alphabet(0, 6, c), -2);
            refused("promise 11: c = " + c, 8, EdgeRefusalTest::some, z -> z.alphabet(2, 31, c), -2);
        }
    }

    private static void promise12() {
        for (int e : new int[] {LEAST, -1, 96, MOST}) {
            refusedAlways("promise 12: entry(" + e + ", 5)", z -> z.entry(e, 5), -1);
            refusedAlways("promise 12: entry(" + e + ", 3001)", z -> z.entry(e, 3001), -1);
        }
        for (int place : new int[] {LEAST, -2, 3001, MOST}) {
            refusedAlways("promise 12: entry(0, " + place + ")", z -> z.entry(0, place), -2);
            refusedAlways("promise 12: entry(95, " + place + ")", z -> z.entry(95, place), -2);
        }
    }

    private static void promise13() {
        for (int place : new int[] {LEAST, -1, 3001, MOST}) {
            refusedAlways("promise 13: tell(" + place + ")", z -> z.tell(place), -2);
        }
        refusedAlways("promise 13: tell(3000)", z -> z.tell(3000), -12);
        Consumer<Watched> within = z -> {
            some(z);
            int place = z.put(20, 1, 7);
            z.put(20, 1, 8);
            z.entry(7, place);
            z.setRow("the row, before");
        };
        refused("promise 13: fault 1", 5, within, z -> z.tell(10), -11);
        refused("promise 13: fault 3", 5, within, z -> z.tell(12), -13);
        Consumer<Watched> tooLong = z -> {
            some(z);
            z.setRow("x".repeat(251));
            z.entry(7, z.make(0));
            z.put(1, 7, 1, 7, 1, 7, 1, 7);
            z.setRow("the row, before");
        };
        refused("promise 13: fault 4", 3, tooLong, z -> z.tell(z.memory() - 6), -14);
    }

    private static void promise15And16() {
        for (int how : new int[] {LEAST, -1, 2, MOST}) {
            refusedAlways("promise 15: numbers(" + how + ")", z -> z.numbers(how), -2);
            refusedAlways("promise 16: make(" + how + ")", z -> z.make(how), -2);
        }
        for (int how = 0; how <= 1; how++) {
            int as = how;
            for (int bytes = 0; bytes <= 7; bytes++) {
                refused("promise 16: make(" + how + "), " + bytes + " left", 5, left(bytes), z -> z.make(as), -4);
            }
        }
    }

    private static void promise17And18() {
        for (int version : new int[] {1, 3, 4, 8}) {
            refused("promise 17: word()", version, EdgeRefusalTest::fullDictionary, Watched::word, -4);
        }
        for (int k : new int[] {LEAST, -1, 40, MOST}) {
            refusedAlways("promise 18: wordByte(" + k + ", 0)", z -> z.wordByte(k, 0), -1);
        }
        for (int i : new int[] {LEAST, -1, 6, MOST}) {
            refusedAlways("promise 18: wordByte(0, " + i + ")", z -> z.wordByte(0, i), -1);
        }
    }

    private static void promise20And22() {
        for (int c : new int[] {LEAST, -1, 32, 1024, MOST}) {
            refusedAlways("promise 20: separator(" + c + ", true)", z -> z.separator(c, true), -2);
            refusedAlways("promise 20: separator(" + c + ", false)", z -> z.separator(c, false), -2);
        }
        for (int k : new int[] {LEAST, -1, 1000, MOST}) {
            refusedAlways("promise 22: token(" + k + ", 0)", z -> z.token(k, 0), -1);
            refusedAlways("promise 22: token(" + k + ", 3)", z -> z.token(k, 3), -1);
        }
        for (int what : new int[] {LEAST, -1, 3, MOST}) {
            refused("promise 22: token(0, " + what + ")", 5, EdgeRefusalTest::some, z -> z.token(0, what), -2);
        }
    }

    public static void main(String[] args) {
        promise3();
        promise4And10();
        promise5();
        promise6();
        promise7And8();
        promise11();
        promise12();
        promise13();
        promise15And16();
        promise17And18();
        promise20And22();
        Due.end();
    }
}
