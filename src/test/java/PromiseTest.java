import java.util.ArrayList;
import java.util.List;

/** Each promise of the document by its number: ordinary inputs, edges, refusals. */
public final class PromiseTest {
    private static int wrong = 0;

    private static void due(String what, long got, long want) {
        if (got != want) {
            wrong++;
            System.out.println(what + " answered " + got + ", due is " + want);
        }
    }

    private static void due(String what, String got, String want) {
        if (!got.equals(want)) {
            wrong++;
            System.out.println(what + " answered " + got + ", due is " + want);
        }
    }

    // ---- helpers

    private static void setRow(ZText z, String text) {
        z.sign(-1);
        addRow(z, text);
    }

    private static void addRow(ZText z, String text) {
        for (char c : text.toCharArray()) {
            z.sign(c);
        }
    }

    private static String row(ZText z) {
        StringBuilder s = new StringBuilder();
        for (int i = 0; i < z.size(); i++) {
            s.append((char) z.at(i));
        }
        return s.toString();
    }

    private static int memorySize(ZText z) {
        return z.feed(0, 0);
    }

    private static void fillMemory(ZText z, int size) {
        int has = memorySize(z);
        while (has >= 0 && has < size) {
            has = z.feed(0, Math.min(8, size - has));
        }
    }

    private static void fillRow(ZText z, int size) {
        int has = z.size();
        while (has >= 0 && has < size) {
            has = z.type(0x6161616161616161L, Math.min(8, size - has));
        }
    }

    /** Puts numbers behind MEMORY as one text, with 5s behind them; the place where it begins. */
    private static int put(ZText z, int... numbers) {
        return putUpTo(z, true, numbers);
    }

    private static int putUpTo(ZText z, boolean ends, int... numbers) {
        int place = memorySize(z);
        for (int k = 0; k < Math.max(1, numbers.length); k += 3) {
            int two = 0;
            for (int j = k; j < k + 3; j++) {
                two = two * 32 + (j < numbers.length ? numbers[j] : 5);
            }
            if (ends && k + 3 >= numbers.length) {
                two += 32768;
            }
            z.feed(two, 2);
        }
        return place;
    }

    /** The numbers of the text at a place, up to its end. */
    private static String numbersAt(ZText z, int place) {
        List<Integer> numbers = new ArrayList<>();
        for (int p = place; z.byteAt(p + 1) >= 0; p += 2) {
            int two = z.byteAt(p) * 256 + z.byteAt(p + 1);
            numbers.add(two >> 10 & 31);
            numbers.add(two >> 5 & 31);
            numbers.add(two & 31);
            if (two >= 32768) {
                break;
            }
        }
        return numbers.toString();
    }

    private static String made(ZText z, int how) {
        return numbersAt(z, z.make(how));
    }

    private static String made(int version, String text) {
        ZText z = new ZText(version);
        setRow(z, text);
        return made(z, 0);
    }

    private static String told(int version, int... numbers) {
        ZText z = new ZText(version);
        int place = put(z, numbers);
        int signs = z.tell(place);
        if (signs < 0) {
            return "fault " + (-10 - signs);
        }
        due("how many of tell", signs, z.size());
        due("behind a tell", z.behind(), memorySize(z));
        return row(z);
    }

    // ---- the promises

    private static void promise1and2() {
        int[][] versions = {{Integer.MIN_VALUE, 1}, {-1, 1}, {0, 1}, {1, 1}, {2, 2}, {3, 3}, {4, 4}, {5, 5},
            {6, 6}, {7, 7}, {8, 8}, {9, 8}, {Integer.MAX_VALUE, 8}};
        for (int[] v : versions) {
            ZText z = new ZText(v[0]);
            due("1, 2: version of " + v[0], z.version(), v[1]);
            due("1: memory", memorySize(z), 0);
            due("1: row", z.size(), 0);
            due("1: words", z.words(), 0);
            due("1: behind", z.behind(), 0);
            due("1: token", z.token(0, 0), -1);
            for (int e = 0; e < 96; e++) {
                due("1: entry " + e, z.entry(e, -1), -1);
            }
        }
        ZText z = null;
        for (int c = 0; c < 1024; c++) {
            if (c % 256 == 0) {
                z = new ZText(4);
            }
            if (c != 32) {
                due("1: separator " + c, z.separator(c, false), 0);
            }
        }
        setRow(z, ".,!");
        due("1: no separators, one token", z.part(), 1);
    }

    private static void promise3and4() {
        ZText z = new ZText(3);
        due("3: feed 2", z.feed(0x123456L, 2), 2);
        due("4: highest first", z.byteAt(0), 0x34);
        due("4: then the lowest", z.byteAt(1), 0x56);
        due("4: behind the end", z.byteAt(2), -1);
        due("4: below 0", z.byteAt(-1), -1);
        due("4: least", z.byteAt(Integer.MIN_VALUE), -1);
        due("4: most", z.byteAt(Integer.MAX_VALUE), -1);
        due("3: feed 0", z.feed(-1L, 0), 2);
        due("3: feed -1", z.feed(0, -1), -2);
        due("3: feed 9", z.feed(0, 9), -2);
        due("3: feed 8", z.feed(0x8899AABBCCDDEEFFL, 8), 10);
        for (int k = 0; k < 8; k++) {
            due("4: byte of eight", z.byteAt(2 + k), 0x88 + 0x11 * k);
        }
        fillMemory(z, 2996);
        due("3: no room", z.feed(-1L, 5), -4);
        due("3: -2 before -4", z.feed(-1L, 9), -2);
        due("3: refused, nothing came", memorySize(z), 2996);
        due("3: up to the most", z.feed(0x01020304L, 4), 3000);
        due("3: full", z.feed(0, 1), -4);
        due("3: nothing more has room", z.feed(0, 0), 3000);
        due("4: last", z.byteAt(2999), 4);
        due("4: behind the most", z.byteAt(3000), -1);
    }

    private static void promise5and6() {
        ZText z = new ZText(3);
        due("5: nothing there", z.poke(0, 1), -1);
        z.feed(0x0A0B0CL, 3);
        due("5: poke", z.poke(1, 255), 0x0B);
        due("5: poke again", z.poke(1, 0), 255);
        due("5: b 256", z.poke(1, 256), -2);
        due("5: b -1", z.poke(1, -1), -2);
        due("5: unchanged", z.byteAt(1), 0);
        due("5: -1 before -2", z.poke(3, 256), -1);
        due("5: i -1", z.poke(-1, 0), -1);
        due("6: too many", z.keep(4), -2);
        due("6: below 0", z.keep(-1), -2);
        due("6: all", z.keep(3), 3);
        due("6: some", z.keep(1), 3);
        due("6: is cut", z.byteAt(1), -1);
        due("6: is kept", z.byteAt(0), 0x0A);
        due("6: no longer there", z.keep(2), -2);
        due("6: none", z.keep(0), 1);
        due("6: none left", memorySize(z), 0);
        due("6: comes anew", z.feed(7, 1), 1);
    }

    private static void promise7to10() {
        ZText z = new ZText(3);
        due("7: sign", z.sign(0), 1);
        due("7: highest sign", z.sign(1023), 2);
        due("7: 1024", z.sign(1024), -2);
        due("7: -2", z.sign(-2), -2);
        due("10: at 0", z.at(0), 0);
        due("10: at 1", z.at(1), 1023);
        due("10: at 2", z.at(2), -1);
        due("10: at -1", z.at(-1), -1);
        due("8: type", z.type(0x1FF4142L, 3), 5);
        due("10: byte as sign", z.at(2), 255);
        due("10: highest first", z.at(3), 0x41);
        due("10: lowest last", z.at(4), 0x42);
        due("8: type 0", z.type(5, 0), 5);
        due("8: type -1", z.type(5, -1), -2);
        due("8: type 9", z.type(5, 9), -2);
        due("9: size", z.size(), 5);
        due("8: eight, the highest bit set", z.type(0xFF00000000000001L, 8), 13);
        due("10: its highest", z.at(5), 255);
        due("10: its lowest", z.at(12), 1);
        fillRow(z, 995);
        due("8: no room", z.type(0, 6), -4);
        due("8: -2 before -4", z.type(0, 99), -2);
        due("9: refused, nothing came", z.size(), 995);
        due("8: up to the most", z.type(0, 5), 1000);
        due("8: full", z.type(0, 1), -4);
        due("8: nothing more has room", z.type(0, 0), 1000);
        due("7: full", z.sign(65), -4);
        due("7: -2 before -4", z.sign(1024), -2);
        due("9: full", z.size(), 1000);
        due("7: empty", z.sign(-1), 0);
        due("9: empty", z.size(), 0);
        due("10: empty", z.at(0), -1);
    }

    private static void promise11() {
        for (int version = 1; version <= 4; version++) {
            ZText z = new ZText(version);
            due("11: version " + version, z.alphabet(0, 6, 65), -3);
            due("11: -3 before all", z.alphabet(3, 5, -1), -3);
        }
        for (int version = 5; version <= 8; version++) {
            ZText z = new ZText(version);
            for (int number = 6; number <= 31; number++) {
                due("11: was", z.alphabet(0, number, 97 + number - 6), 97 + number - 6);
                due("11: was", z.alphabet(1, number, 65 + number - 6), 65 + number - 6);
            }
            due("11: alphabet -1", z.alphabet(-1, 6, 1), -1);
            due("11: alphabet 3", z.alphabet(3, 6, 1), -1);
            due("11: number 5", z.alphabet(0, 5, 1), -1);
            due("11: number 32", z.alphabet(0, 32, 1), -1);
            due("11: the escape", z.alphabet(2, 6, 1), -1);
            due("11: the new line", z.alphabet(2, 7, 1), -1);
            due("11: -1 before -2", z.alphabet(2, 7, 1024), -1);
            due("11: c -1", z.alphabet(2, 8, -1), -2);
            due("11: c 1024", z.alphabet(2, 8, 1024), -2);
            due("11: unchanged", z.alphabet(2, 8, 1023), 48);
            due("11: changed", z.alphabet(2, 8, 0), 1023);
            due("11: 6 of alphabet 1", z.alphabet(1, 6, 500), 65);
            due("11: 7 of alphabet 0", z.alphabet(0, 7, 500), 98);
            due("11: last", z.alphabet(2, 31, 7), 41);
            setRow(z, "b");
            z.sign(500);
            due("11: made with it", made(z, 0), "[5, 6, 3, 2, 7, 5]");
            z.tell(put(z, 7, 4, 6));
            due("11: told with it", row(z), "\u01f4\u01f4");
        }
    }

    private static void promise12() {
        ZText z = new ZText(3);
        due("12: none before", z.entry(0, 0), -1);
        due("12: had", z.entry(0, 3000), 0);
        due("12: had the most", z.entry(0, -1), 3000);
        due("12: had none", z.entry(0, 5), -1);
        due("12: place 3001", z.entry(0, 3001), -2);
        due("12: place -2", z.entry(0, -2), -2);
        due("12: unchanged", z.entry(0, 6), 5);
        due("12: entry 95", z.entry(95, 1), -1);
        due("12: entry 95 has it", z.entry(95, 2), 1);
        due("12: entry 96", z.entry(96, 1), -1);
        due("12: entry -1", z.entry(-1, 1), -1);
        due("12: -1 before -2", z.entry(96, 3001), -1);
        due("12: in version 1 too", new ZText(1).entry(40, 3001), -2);
    }

    private static void promise13plain() {
        for (int version = 1; version <= 8; version++) {
            due("13: alphabet 0", told(version, 6, 31, 0, 7), "az b");
        }
        String old = "0123456789.,!?_#'\"/\\<-:()";
        String third = "\r0123456789.,!?_#'\"/\\-:()";
        for (int number = 7; number <= 31; number++) {
            due("13: old third", told(1, 3, number), old.substring(number - 7, number - 6));
            due("13: third of 2", told(2, 3, number), third.substring(number - 7, number - 6));
            due("13: third", told(3, 5, number), third.substring(number - 7, number - 6));
            due("13: third of 8", told(8, 5, number), third.substring(number - 7, number - 6));
        }
        due("13: 1 of version 1", told(1, 6, 1, 6), "a\ra");
        due("13: shifts of version 1", told(1, 2, 6, 6, 3, 7, 6), "Aa0a");
        due("13: locks of version 1", told(1, 4, 6, 6, 5, 6), "AAa");
        due("13: locks of version 2", told(2, 5, 8, 8, 4, 6, 6), "00aa");
        due("13: shifts from a lock", told(2, 4, 3, 6, 6, 2, 8, 6), "aA0A");
        due("13: shift of lock 2", told(1, 5, 2, 6, 3, 6, 7), "aA0");
        due("13: lock twice", told(2, 5, 5, 6), "A");
        due("13: shifts of version 3", told(3, 4, 6, 6, 5, 8, 6), "Aa0a");
        due("13: shift and space", told(3, 4, 0, 6), " a");
        due("13: shift and space of 1", told(1, 2, 0, 6), " a");
        due("13: shift and new line of 1", told(1, 3, 1, 7), "\rb");
        due("13: two shifts", told(3, 4, 5, 8, 6), "0a");
        due("13: shift, then its like", told(3, 5, 4, 6, 6), "Aa");
        due("13: two shifts of 1", told(1, 2, 3, 7, 6), "0a");
        due("13: shift, then lock", told(1, 2, 5, 7), "0");
        due("13: lock, then shift", told(1, 4, 2, 7, 6), "0A");
        due("13: escape", told(3, 5, 6, 2, 1, 6), "Aa");
        due("13: highest escape", told(3, 5, 6, 31, 31, 6), "\u03ffa");
        due("13: least escape", told(3, 5, 6, 0, 0, 6), "\u0000a");
        due("13: escape's parts are not shifts", told(3, 5, 6, 4, 5, 6), "\u0085a");
        due("13: escape of lock 2", told(1, 5, 6, 2, 1, 7), "A0");
        due("13: 6 of alphabet 1 is none", told(3, 4, 6), "A");
        due("13: escape with one", told(3, 6, 5, 6, 3), "a\u0065");
        due("13: escape lacks one", told(3, 6, 6, 6, 5, 6, 1), "aaa");
        due("13: escape lacks both", told(3, 6, 5, 6), "a");
        due("13: nothing but 5s", told(3, 5, 5, 5), "");
        due("13: nothing but 0s in the last word", told(3, 6, 6, 6, 0, 0, 0), "aaa   ");
    }

    private static void promise13abbreviations() {
        for (int version = 2; version <= 8; version++) {
            ZText z = new ZText(version);
            z.entry(31, put(z, 6, 7, 8));
            z.entry(32, put(z, 9));
            z.entry(95, put(z, 10, 11));
            z.tell(put(z, 20, 1, 31, 20));
            due("13: entry 31 of " + version, row(z), "oabco");
            if (version > 2) {
                z.tell(put(z, 2, 0, 3, 31, 6));
                due("13: entries 32, 95 of " + version, row(z), "defa");
            }
        }
        ZText z = new ZText(3);
        z.entry(0, put(z, 6, 4));
        z.tell(put(z, 4, 1, 0, 7));
        due("13: shift means nothing to an abbreviation, nor leaks out of it", row(z), "ab");
        z = new ZText(2);
        z.entry(0, put(z, 6, 4, 6));
        z.tell(put(z, 4, 6, 1, 0, 6));
        due("13: abbreviation from alphabet 0, its locks its own", row(z), "AaAA");
        z.tell(put(z, 2, 1, 0, 6));
        due("13: shift before an abbreviation", row(z), "aAa");
        z.tell(put(z, 6, 6, 1));
        due("13: abbreviation lacks its number", row(z), "aa");
        z = new ZText(3);
        z.entry(1, put(z, 6, 5, 6));
        z.tell(put(z, 1, 1, 7));
        due("13: escape in an abbreviation lacks its numbers", row(z), "ab");
        z.entry(2, 3000);
        z.entry(3, put(z, 5, 5, 5));
        due("13: abbreviation of nothing", z.tell(put(z, 1, 3, 7)), 1);
    }

    private static void promise13faults() {
        ZText z = new ZText(3);
        due("13: place -1", z.tell(-1), -2);
        due("13: place 3001", z.tell(3001), -2);
        due("13: place 3000", z.tell(3000), -12);
        due("13: nothing there", z.tell(0), -12);
        z.feed(0x94, 1);
        due("13: half a word", z.tell(0), -12);
        z = new ZText(3);
        int open = putUpTo(z, false, 6, 7, 8);
        due("13: no last word", z.tell(open), -12);
        z.keep(0);

        setRow(z, "kept");
        int none = put(z, 6, 1, 9);
        due("13: entry without a place", z.tell(none), -13);
        due("13: row is kept", row(z).equals("kept") ? 1 : 0, 1);
        z.entry(9, 3000);
        due("13: entry outside memory", z.tell(none), -12);
        z.entry(9, none);
        due("13: abbreviation within one", z.tell(none), -11);
        z.entry(9, put(z, 6, 6, 2));
        due("13: within one, its number lacks", z.tell(none), -11);
        due("13: that is fine outside of one", z.tell(put(z, 6, 6, 2)), 2);
        z.entry(9, putUpTo(z, false, 6, 6, 6));
        due("13: abbreviation runs out of memory", z.tell(none), -12);

        ZText two = new ZText(3);
        two.entry(0, putUpTo(two, false, 6, 6, 3));
        due("13: 1 comes before 2", two.tell(put(two, 1, 0)), -11);
        two.keep(2);
        due("13: within, then memory ends", two.tell(0), -12);
        ZText three = new ZText(3);
        due("13: 3 comes before 2", three.tell(putUpTo(three, false, 1, 5, 6)), -13);
        three.keep(0);
        due("13: 2 comes before 3", three.tell(putUpTo(three, false, 6, 6, 1)), -12);
        ZText old = new ZText(2);
        old.entry(0, put(old, 2, 6, 3, 8));
        old.tell(put(old, 1, 0));
        due("13: 2, 3 in an abbreviation of version 2", row(old), "A0");
        old.entry(0, put(old, 6, 6, 1));
        due("13: 1 in one of version 2", old.tell(put(old, 1, 0)), -11);
        due("13: no abbreviations in version 1", told(1, 6, 1, 6), "a\ra");
    }

    private static void promise13most() {
        ZText z = new ZText(3);
        fillRow(z, 500);
        z.entry(0, z.make(0));
        int exact = put(z, 1, 0, 1, 0);
        int more = put(z, 1, 0, 1, 0, 6);
        int unknown = put(z, 1, 0, 1, 0, 6, 1, 1);
        int early = put(z, 1, 0, 1, 1, 1, 0);
        due("13: 1000 signs", z.tell(exact), 1000);
        setRow(z, "q");
        z.feed(1 << 10 | 0 << 5 | 1, 2);
        int half = z.feed(0 << 10 | 5 << 5 | 5, 2) - 4;
        z.feed(0x7F, 1);
        due("13: half a word behind 1000 signs", z.tell(half), -12);
        z.keep(half);
        due("13: 1001st sign", z.tell(more), -14);
        due("13: row is kept", row(z), "q");
        due("13: 4 comes before 3", z.tell(unknown), -14);
        due("13: 3 comes before 4", z.tell(early), -13);
        z.entry(1, put(z, 5, 5, 5));
        due("13: nothing more at 1000", z.tell(put(z, 1, 0, 1, 0, 1, 1, 4, 5, 6)), 1000);
        z.entry(1, put(z, 6));
        due("13: 1001st in an abbreviation", z.tell(put(z, 1, 0, 1, 0, 1, 1)), -14);
        due("13: 1001st, a space", z.tell(put(z, 1, 0, 1, 0, 0)), -14);
        due("13: 1001st, of an escape", z.tell(put(z, 1, 0, 1, 0, 5, 6, 1, 1)), -14);
    }

    private static void promise14() {
        ZText z = new ZText(3);
        int first = put(z, 6, 7, 8, 9);
        int second = put(z, 1, 0, 6);
        due("14: before", z.behind(), 0);
        z.tell(first);
        due("14: behind the first", z.behind(), 4);
        z.entry(0, first);
        z.tell(second);
        due("14: its own, not of abbreviations", z.behind(), 6);
        due("14: refused", z.tell(-1), -2);
        due("14: a refusal changes nothing", z.behind(), 6);
        due("14: refused above", z.tell(3001), -2);
        due("14: a refusal changes nothing", z.behind(), 6);
        due("14: a fault", z.tell(6), -12);
        due("14: behind a fault", z.behind(), 0);
        z.tell(2);
        due("14: told again", z.behind(), 4);
        z.keep(0);
        due("14: stays", z.behind(), 4);
        z.feed(0, 1);
        z.feed(0x94A5, 2);
        due("14: odd place", z.tell(1), 0);
        due("14: behind it", z.behind(), 3);
    }

    private static void promise15and16plain() {
        for (int version = 1; version <= 8; version++) {
            due("16: empty", made(version, ""), "[5, 5, 5]");
            due("16: letters", made(version, "az"), "[6, 31, 5]");
            due("16: space", made(version, "a a"), "[6, 0, 6]");
            due("16: four", made(version, "abcd"), "[6, 7, 8, 9, 5, 5]");
        }
        due("16: shifts of 1", made(1, "A0"), "[2, 6, 3, 7, 5, 5]");
        due("16: shifts of 2", made(2, "A0"), "[2, 6, 3, 8, 5, 5]");
        due("16: shifts of 3", made(3, "A0"), "[4, 6, 5, 8, 5, 5]");
        due("16: shifts of 8", made(8, "Z)"), "[4, 31, 5, 31, 5, 5]");
        due("16: 13 of 1", made(1, "\r"), "[1, 5, 5]");
        due("16: 13 of 2", made(2, "\r"), "[3, 7, 5]");
        due("16: 13 of 3", made(3, "\r"), "[5, 7, 5]");
        due("16: < of 1", made(1, "<"), "[3, 27, 5]");
        due("16: < of 2", made(2, "<"), "[3, 6, 1, 28, 5, 5]");
        due("16: < of 3", made(3, "<"), "[5, 6, 1, 28, 5, 5]");
        due("16: highest", made(4, "\u03ff"), "[5, 6, 31, 31, 5, 5]");
        due("16: 0", made(1, "\u0000"), "[3, 6, 0, 0, 5, 5]");

        ZText z = new ZText(3);
        due("15: empty", z.numbers(0), 0);
        due("15: empty, best", z.numbers(1), 0);
        setRow(z, "aA @");
        due("15: as it is", z.numbers(0), 8);
        due("15: -1", z.numbers(-1), -2);
        due("15: 2", z.numbers(2), -2);
        due("15: row stays", row(z), "aA @");
        due("16: -1", z.make(-1), -2);
        due("16: 2", z.make(2), -2);
        due("16: begins", z.make(0), 0);
        due("16: three words", memorySize(z), 6);
        due("16: begins behind", z.make(0), 6);
        due("16: only the last is told last", z.byteAt(0) < 128 && z.byteAt(2) < 128 && z.byteAt(4) >= 128 ? 1 : 0, 1);
        due("16: row stays", row(z), "aA @");
        due("16: told again", z.tell(6), 4);
        due("16: the same", row(z), "aA @");
    }

    private static void promise16room() {
        ZText z = new ZText(3);
        setRow(z, "abcd");
        fillMemory(z, 2997);
        due("16: no room", z.make(0), -4);
        due("16: no room, best", z.make(1), -4);
        due("16: -2 before -4", z.make(2), -2);
        due("16: nothing came", memorySize(z), 2997);
        z.keep(2996);
        due("16: just room", z.make(0), 2996);
        due("16: full", memorySize(z), 3000);
        z.sign(-1);
        due("16: not even for an empty row", z.make(0), -4);
        due("15: needs no room", z.numbers(0), 0);
        z = new ZText(3);
        fillRow(z, 1000);
        due("15: the longest row", z.numbers(0), 1000);
        z.sign(-1);
        for (int k = 0; k < 125; k++) {
            z.type(-1L, 8);
        }
        due("15: the longest numbers", z.numbers(0), 4000);
        due("16: the longest", z.make(0), 0);
        due("16: its bytes", memorySize(z), 2668);
        due("16: told again", z.tell(0), 1000);
        due("16: the same", z.at(999), 255);
        due("16: no room twice", z.make(1), -4);
    }

    private static void promise16letters() {
        ZText z = new ZText(5);
        z.alphabet(1, 6, 'z');
        setRow(z, "z");
        due("16: lowest alphabet", made(z, 0), "[31, 5, 5]");
        z.alphabet(0, 31, 'a');
        setRow(z, "az");
        due("16: lowest number; then alphabet 1", made(z, 0), "[6, 4, 6]");
        z.alphabet(0, 8, 32);
        z.alphabet(0, 9, 13);
        setRow(z, " \r");
        due("16: space stays 0, 13 may be a letter", made(z, 0), "[0, 9, 5]");
        z.tell(put(z, 8, 9));
        due("13: such letters are told", row(z), " \r");
        z.alphabet(0, 6, 'q');
        setRow(z, "a");
        due("16: 31 has it now", made(z, 0), "[31, 5, 5]");
    }

    private static ZText withEntries(int version, String... texts) {
        ZText z = new ZText(version);
        for (int e = 0; e < texts.length; e++) {
            if (texts[e] != null) {
                setRow(z, texts[e]);
                z.entry(e, z.make(0));
            }
        }
        return z;
    }

    private static String best(ZText z, String text) {
        setRow(z, text);
        int needed = z.numbers(1);
        String all = made(z, 1);
        String[] numbers = all.substring(1, all.length() - 1).split(", ");
        int whole = needed == 0 ? 3 : (needed + 2) / 3 * 3;
        due("15, 16: as many as made of " + text, numbers.length, whole);
        StringBuilder s = new StringBuilder();
        for (int k = 0; k < needed; k++) {
            s.append(k == 0 ? "" : " ").append(numbers[k]);
        }
        return s.toString();
    }

    private static void promise16best() {
        due("16: none in version 1", best(withEntries(1, "aaaa"), "aaaa"), "6 6 6 6");
        due("16: one", best(withEntries(2, "aaaa"), "aaaa"), "1 0");
        due("16: one of 3", best(withEntries(3, "aaaa"), "baaaab"), "7 1 0 7");
        due("16: not the greedy one", best(withEntries(3, "abc", "bcdefg"), "abcdefg"), "6 1 1");
        due("16: as few: the abbreviation is less", best(withEntries(3, "ab"), "ab"), "1 0");
        due("16: as few: a space is less", best(withEntries(3, " a"), " a"), "0 6");
        due("16: fewer with the space within", best(withEntries(3, " ab"), " ab"), "1 0");
        due("16: as few: the lower entry", best(withEntries(3, "abc", "abc"), "abc"), "1 0");
        due("16: earlier one first", best(withEntries(3, "bcd", "abc"), "abcd"), "1 1 9");
        due("16: one sign, two numbers", best(withEntries(3, "A"), "AA"), "1 0 1 0");
        due("16: one sign, as few: less than shift 4", best(withEntries(3, "A"), "A"), "1 0");
        due("16: one letter is never best", best(withEntries(3, "a"), "a"), "6");
        due("16: codes are dear", best(withEntries(3, "@"), "@a@"), "1 0 6 1 0");
        due("16: entry of nothing", best(withEntries(3, ""), "ab"), "6 7");
        due("16: longer than the row", best(withEntries(3, "abcd"), "abc"), "6 7 8");
        due("16: overlapping ones", best(withEntries(3, "aaa"), "aaaaaaa"), "1 0 1 0 6");
        due("16: empty row", best(withEntries(3, "aaa"), ""), "");

        ZText z = withEntries(3, "abcdef");
        int place = z.entry(0, -1);
        z.entry(31, place);
        due("16: entry 31", best(z, "abcdef"), "1 31");
        z.entry(31, -1);
        z.entry(32, place);
        due("16: entry 32", best(z, "abcdef"), "2 0");
        z.entry(32, -1);
        z.entry(64, place);
        z.entry(95, place);
        due("16: entry 64", best(z, "abcdef"), "3 0");
        z.entry(64, -1);
        due("16: entry 95", best(z, "abcdef"), "3 31");
        z.entry(5, 3000);
        due("16: one with a fault beside it", best(z, "abcdef"), "3 31");
        z.poke(place + 2, z.byteAt(place + 2) & 127);
        z.keep(place + 4);
        due("16: it has a fault now", z.numbers(1), 6);

        z = withEntries(2, "abcdef");
        z.entry(32, z.entry(0, -1));
        due("16: not 32 in version 2", best(z, "abcdef"), "6 7 8 9 10 11");
        z.entry(31, z.entry(32, -1));
        due("16: 31 in version 2", best(z, "abcdef"), "1 31");
        z = new ZText(3);
        z.entry(0, put(z, 6, 7, 8));
        z.entry(1, put(z, 1, 0, 9));
        due("16: none with an abbreviation within", best(z, "abcd"), "1 0 9");
        z.entry(2, put(z, 6, 7, 8, 9, 10, 1));
        due("16: none with the number of one", best(z, "abcde"), "1 0 9 10");
        z.entry(3, put(z, 6, 7, 8, 9, 5, 6));
        due("16: one that lacks numbers", best(z, "abcde"), "1 3 10");
        due("16: told back", z.tell(z.make(1)), 5);
        due("16: told back the same", row(z), "abcde");
    }

    private static void promise16bestLong() {
        ZText z = new ZText(3);
        fillRow(z, 1000);
        z.entry(7, z.make(0));
        due("15: all of the longest row", z.numbers(1), 2);
        z.entry(7, put(z, 6, 6, 6, 6, 6, 6, 6));
        due("15: the longest row in sevens", z.numbers(1), 2 * 142 + 6);
        int place = z.make(1);
        due("16: told back", z.tell(place), 1000);
    }

    private static void promise17to19() {
        for (int version = 1; version <= 8; version++) {
            ZText z = new ZText(version);
            int bytes = version <= 3 ? 4 : 6;
            setRow(z, "lantern");
            due("17: first", z.word(), 0);
            setRow(z, "lanterns");
            due("17: cut or not", z.word(), version <= 3 ? 0 : 1);
            setRow(z, "lanternists");
            z.word();
            setRow(z, "lanternis");
            due("17: cut at nine", z.word(), version <= 3 ? 0 : 2);
            due("19: words", z.words(), version <= 3 ? 1 : 3);
            due("18: the first byte", z.wordByte(0, 0), 17 << 2 | 6 >> 3);
            due("18: behind", z.wordByte(0, bytes), -1);
            due("18: below", z.wordByte(0, -1), -1);
            due("18: no such", z.wordByte(version <= 3 ? 1 : 3, 0), -1);
            due("18: none below", z.wordByte(-1, 0), -1);
            due("18: last is told last", z.wordByte(0, bytes - 2) >> 7, 1);
            due("18: the one before is not", z.wordByte(0, bytes - 4) >> 7, 0);
            due("17: row stays", row(z), "lanternis");
        }
        ZText z = new ZText(3);
        due("17: of an empty row", z.word(), 0);
        due("18: 5s", z.wordByte(0, 0) << 8 | z.wordByte(0, 1), 0x14A5);
        due("18: 5s at the end", z.wordByte(0, 2) << 8 | z.wordByte(0, 3), 0x94A5);
        setRow(z, "abcd@");
        due("17: cut in a code", z.word(), 1);
        due("18: shift and escape are left", z.wordByte(1, 2) << 8 | z.wordByte(1, 3), 32768 | 9 << 10 | 5 << 5 | 6);
        setRow(z, "abcd<");
        due("17: equal when cut", z.word(), 1);
        z.entry(0, 0);
        z.feed(0x98E8, 2);
        setRow(z, "abc");
        due("17: without abbreviations", z.word(), 2);
        due("18: letters", z.wordByte(2, 0) << 8 | z.wordByte(2, 1), 6 << 10 | 7 << 5 | 8);
        setRow(z, "ABC");
        due("17: capitals are others", z.word(), 3);
        setRow(z, "abc");
        due("17: that of before", z.word(), 2);
    }

    private static void promise17most() {
        ZText z = new ZText(4);
        for (int k = 0; k < 40; k++) {
            z.sign(-1);
            z.sign('a' + k / 26);
            z.sign('a' + k % 26);
            due("17: word " + k, z.word(), k);
        }
        setRow(z, "zz");
        due("17: there are 40", z.word(), -4);
        due("19: still 40", z.words(), 40);
        setRow(z, "bn");
        due("17: one of them", z.word(), 39);
        due("18: of the last", z.wordByte(39, 0), 7 << 2 | 19 >> 3);
        due("18: no 41st", z.wordByte(40, 0), -1);
    }

    private static void promise20() {
        ZText z = new ZText(3);
        due("20: was not", z.separator(0, true), 0);
        due("20: was", z.separator(0, true), 1);
        due("20: was, is no more", z.separator(0, false), 1);
        due("20: was not again", z.separator(0, false), 0);
        due("20: highest", z.separator(1023, true), 0);
        due("20: 1024", z.separator(1024, true), -2);
        due("20: -1", z.separator(-1, true), -2);
        due("20: 32", z.separator(32, true), -2);
        due("20: 32 off", z.separator(32, false), -2);
    }

    private static String tokens(ZText z) {
        StringBuilder s = new StringBuilder();
        int count = z.part();
        for (int k = 0; k < count; k++) {
            s.append(k == 0 ? "" : " ").append(z.token(k, 0)).append('+').append(z.token(k, 1));
            s.append('=').append(z.token(k, 2));
        }
        due("22: no more tokens", z.token(count, 0), -1);
        return s.toString();
    }

    private static void promise21and22() {
        ZText z = new ZText(3);
        due("21: empty", z.part(), 0);
        due("22: none", z.token(0, 0), -1);
        due("22: -1 before -2", z.token(0, 3), -1);
        setRow(z, "   ");
        due("21: spaces alone", tokens(z), "");
        setRow(z, "go");
        z.word();
        setRow(z, ",");
        z.word();
        z.separator(',', true);
        z.separator('X', true);
        setRow(z, "go");
        due("21: one", tokens(z), "0+2=0");
        setRow(z, " Go  west,,gO");
        due("21: many", tokens(z), "1+2=0 5+4=-1 9+1=1 10+1=1 11+2=0");
        due("22: k -1", z.token(-1, 0), -1);
        due("22: what -1", z.token(0, -1), -2);
        due("22: what 3", z.token(0, 3), -2);
        due("22: -1 before -2", z.token(5, 3), -1);
        setRow(z, ",go,");
        due("21: at the ends", tokens(z), "0+1=1 1+2=0 3+1=1");
        setRow(z, "aXbxc");
        due("21: a separator is the sign itself", tokens(z), "0+1=-1 1+1=-1 2+3=-1");
        setRow(z, "x");
        z.word();
        setRow(z, "X");
        due("21: its word is the small one's", tokens(z), "0+1=2");
        z.separator('X', false);
        setRow(z, "go\rgo");
        due("21: 13 parts nothing", tokens(z), "0+5=-1");
        z.separator(13, true);
        due("21: till it is one", tokens(z), "0+2=0 2+1=-1 3+2=0");
        setRow(z, "new");
        due("22: unknown", tokens(z), "0+3=-1");
        z.word();
        due("22: as the dictionary was then", z.token(0, 2), -1);
        z.sign(-1);
        due("22: they stay", z.token(0, 1), 3);
        due("21: empty again", z.part(), 0);
        due("22: gone", z.token(0, 0), -1);
        setRow(z, "NEWARK");
        z.word();
        due("22: a word of capitals is not found", tokens(z), "0+6=-1");
        setRow(z, "newark");
        z.word();
        setRow(z, "NEWARKER");
        due("22: cut as the word is", tokens(z), "0+8=5");
        setRow(z, "NEWARK");
        due("21: the row stays", row(z), "NEWARK");
        setRow(z, "zap");
        z.word();
        setRow(z, "`{");
        z.word();
        setRow(z, "ZAP @[");
        due("22: A to Z alone are made small", tokens(z), "0+3=6 4+2=-1");
    }

    private static void promise21most() {
        ZText z = new ZText(6);
        z.separator('a', true);
        fillRow(z, 1000);
        due("21: a thousand", z.part(), 1000);
        due("22: the last", z.token(999, 0), 999);
        due("22: the last's length", z.token(999, 1), 1);
        due("22: no more", z.token(1000, 0), -1);
        z.separator('a', false);
        due("22: they stay", z.token(999, 0), 999);
        due("21: one long", z.part(), 1);
        due("22: its length", z.token(0, 1), 1000);
        due("22: the others are gone", z.token(1, 0), -1);
    }

    private static void refusalsChangeNothing() {
        ZText z = withEntries(5, "abc");
        setRow(z, "abc");
        z.word();
        z.part();
        z.tell(0);
        z.feed(1, 9);
        z.poke(0, 999);
        z.keep(99);
        z.sign(5000);
        z.type(1, -3);
        z.alphabet(0, 6, 2000);
        z.entry(0, 9999);
        z.tell(4000);
        z.make(7);
        z.numbers(7);
        z.separator(32, true);
        z.token(0, 7);
        due("refusals: memory", memorySize(z), 2);
        due("refusals: byte", z.byteAt(0), 128 | 6 << 2);
        due("refusals: row", row(z), "abc");
        due("refusals: letter", z.alphabet(0, 6, 97), 97);
        due("refusals: entry", z.entry(0, 0), 0);
        due("refusals: behind", z.behind(), 2);
        due("refusals: token", z.token(0, 2), 0);
    }

    public static void main(String[] args) {
        promise1and2();
        promise3and4();
        promise5and6();
        promise7to10();
        promise11();
        promise12();
        promise13plain();
        promise13abbreviations();
        promise13faults();
        promise13most();
        promise14();
        promise15and16plain();
        promise16room();
        promise16letters();
        promise16best();
        promise16bestLong();
        promise17to19();
        promise17most();
        promise20();
        promise21and22();
        promise21most();
        refusalsChangeNothing();
        System.out.println(wrong == 0 ? "all answers are as due" : wrong + " answers are not as due");
        if (wrong != 0) {
            System.exit(1);
        }
    }
}
