/** Each promise of the document by its number: ordinary inputs, edges, refusals. */
public final class PromiseTest {
    private static String made(int version, String text) {
        Watched z = new Watched(version);
        z.setRow(text);
        return z.made(0);
    }

    private static String told(int version, int... numbers) {
        Watched z = new Watched(version);
        int place = z.put(numbers);
        int signs = z.tell(place);
        if (signs < 0) {
            return "FAULT " + (-10 - signs);
        }
        Due.is("13: how many of tell", signs, z.size());
        Due.is("14: behind a tell", z.behind(), z.memory());
        return z.row();
    }

    // ---- the promises

    private static void promise1and2() {
        int[][] versions = {{Integer.MIN_VALUE, 1}, {-1, 1}, {0, 1}, {1, 1}, {2, 2}, {3, 3}, {4, 4}, {5, 5},
            {6, 6}, {7, 7}, {8, 8}, {9, 8}, {Integer.MAX_VALUE, 8}};
        for (int[] v : versions) {
            Watched z = new Watched(v[0]);
            Due.is("1, 2: version of " + v[0], z.version(), v[1]);
            Due.is("1: memory", z.memory(), 0);
            Due.is("1: row", z.size(), 0);
            Due.is("1: words", z.words(), 0);
            Due.is("1: behind", z.behind(), 0);
            Due.is("1: token", z.token(0, 0), -1);
            for (int e = 0; e < 96; e++) {
                Due.is("1: entry " + e, z.entry(e, -1), -1);
            }
        }
        Watched z = null;
        for (int c = 0; c < 1024; c++) {
            if (c % 256 == 0) {
                z = new Watched(4);
            }
            if (c != 32) {
                Due.is("1: separator " + c, z.separator(c, false), 0);
            }
        }
        z.setRow(".,!");
        Due.is("1: no separators, one token", z.part(), 1);
    }

    private static void promise3and4() {
        Watched z = new Watched(3);
        Due.is("3: feed 2", z.feed(0x123456L, 2), 2);
        Due.is("4: highest first", z.byteAt(0), 0x34);
        Due.is("4: then the lowest", z.byteAt(1), 0x56);
        Due.is("4: behind the end", z.byteAt(2), -1);
        Due.is("4: below 0", z.byteAt(-1), -1);
        Due.is("4: least", z.byteAt(Integer.MIN_VALUE), -1);
        Due.is("4: most", z.byteAt(Integer.MAX_VALUE), -1);
        Due.is("3: feed 0", z.feed(-1L, 0), 2);
        Due.is("3: feed -1", z.feed(0, -1), -2);
        Due.is("3: feed 9", z.feed(0, 9), -2);
        Due.is("3: feed 8", z.feed(0x8899AABBCCDDEEFFL, 8), 10);
        for (int k = 0; k < 8; k++) {
            Due.is("4: byte of eight", z.byteAt(2 + k), 0x88 + 0x11 * k);
        }
        z.fillMemory(2996);
        Due.is("3: no room", z.feed(-1L, 5), -4);
        Due.is("3: -2 before -4", z.feed(-1L, 9), -2);
        Due.is("3: refused, nothing came", z.memory(), 2996);
        Due.is("3: up to the most", z.feed(0x01020304L, 4), 3000);
        Due.is("3: full", z.feed(0, 1), -4);
        Due.is("3: nothing more has room", z.feed(0, 0), 3000);
        Due.is("4: last", z.byteAt(2999), 4);
        Due.is("4: behind the most", z.byteAt(3000), -1);
    }

    private static void promise5and6() {
        Watched z = new Watched(3);
        Due.is("5: nothing there", z.poke(0, 1), -1);
        z.feed(0x0A0B0CL, 3);
        Due.is("5: poke", z.poke(1, 255), 0x0B);
        Due.is("5: poke again", z.poke(1, 0), 255);
        Due.is("5: b 256", z.poke(1, 256), -2);
        Due.is("5: b -1", z.poke(1, -1), -2);
        Due.is("5: unchanged", z.byteAt(1), 0);
        Due.is("5: -1 before -2", z.poke(3, 256), -1);
        Due.is("5: i -1", z.poke(-1, 0), -1);
        Due.is("6: too many", z.keep(4), -2);
        Due.is("6: below 0", z.keep(-1), -2);
        Due.is("6: all", z.keep(3), 3);
        Due.is("6: some", z.keep(1), 3);
        Due.is("6: is cut", z.byteAt(1), -1);
        Due.is("6: is kept", z.byteAt(0), 0x0A);
        Due.is("6: no longer there", z.keep(2), -2);
        Due.is("6: none", z.keep(0), 1);
        Due.is("6: none left", z.memory(), 0);
        Due.is("6: comes anew", z.feed(7, 1), 1);
    }

    private static void promise7to10() {
        Watched z = new Watched(3);
        Due.is("7: sign", z.sign(0), 1);
        Due.is("7: highest sign", z.sign(1023), 2);
        Due.is("7: 1024", z.sign(1024), -2);
        Due.is("7: -2", z.sign(-2), -2);
        Due.is("10: at 0", z.at(0), 0);
        Due.is("10: at 1", z.at(1), 1023);
        Due.is("10: at 2", z.at(2), -1);
        Due.is("10: at -1", z.at(-1), -1);
        Due.is("8: type", z.type(0x1FF4142L, 3), 5);
        Due.is("10: byte as sign", z.at(2), 255);
        Due.is("10: highest first", z.at(3), 0x41);
        Due.is("10: lowest last", z.at(4), 0x42);
        Due.is("8: type 0", z.type(5, 0), 5);
        Due.is("8: type -1", z.type(5, -1), -2);
        Due.is("8: type 9", z.type(5, 9), -2);
        Due.is("9: size", z.size(), 5);
        Due.is("8: eight, the highest bit set", z.type(0xFF00000000000001L, 8), 13);
        Due.is("10: its highest", z.at(5), 255);
        Due.is("10: its lowest", z.at(12), 1);
        z.fillRow(995);
        Due.is("8: no room", z.type(0, 6), -4);
        Due.is("8: -2 before -4", z.type(0, 99), -2);
        Due.is("9: refused, nothing came", z.size(), 995);
        Due.is("8: up to the most", z.type(0, 5), 1000);
        Due.is("8: full", z.type(0, 1), -4);
        Due.is("8: nothing more has room", z.type(0, 0), 1000);
        Due.is("7: full", z.sign(65), -4);
        Due.is("7: -2 before -4", z.sign(1024), -2);
        Due.is("9: full", z.size(), 1000);
        Due.is("7: empty", z.sign(-1), 0);
        Due.is("9: empty", z.size(), 0);
        Due.is("10: empty", z.at(0), -1);
    }

    private static void promise11() {
        for (int version = 1; version <= 4; version++) {
            Watched z = new Watched(version);
            Due.is("11: version " + version, z.alphabet(0, 6, 65), -3);
            Due.is("11: -3 before all", z.alphabet(3, 5, -1), -3);
        }
        for (int version = 5; version <= 8; version++) {
            Watched z = new Watched(version);
            for (int number = 6; number <= 31; number++) {
                Due.is("11: was", z.alphabet(0, number, 97 + number - 6), 97 + number - 6);
                Due.is("11: was", z.alphabet(1, number, 65 + number - 6), 65 + number - 6);
            }
            Due.is("11: alphabet -1", z.alphabet(-1, 6, 1), -1);
            Due.is("11: alphabet 3", z.alphabet(3, 6, 1), -1);
            Due.is("11: number 5", z.alphabet(0, 5, 1), -1);
            Due.is("11: number 32", z.alphabet(0, 32, 1), -1);
            Due.is("11: the escape", z.alphabet(2, 6, 1), -1);
            Due.is("11: the new line", z.alphabet(2, 7, 1), -1);
            Due.is("11: -1 before -2", z.alphabet(2, 7, 1024), -1);
            Due.is("11: c -1", z.alphabet(2, 8, -1), -2);
            Due.is("11: c 1024", z.alphabet(2, 8, 1024), -2);
            Due.is("11: unchanged", z.alphabet(2, 8, 1023), 48);
            Due.is("11: changed", z.alphabet(2, 8, 0), 1023);
            Due.is("11: 6 of alphabet 1", z.alphabet(1, 6, 500), 65);
            Due.is("11: 7 of alphabet 0", z.alphabet(0, 7, 500), 98);
            Due.is("11: last", z.alphabet(2, 31, 7), 41);
            z.setRow("b");
            z.sign(500);
            Due.is("11: made with it", z.made(0), "5 6 3 2 7 5");
            z.tell(z.put(7, 4, 6));
            Due.is("11: told with it", z.row(), "\u01f4\u01f4");
        }
    }

    private static void promise12() {
        Watched z = new Watched(3);
        Due.is("12: none before", z.entry(0, 0), -1);
        Due.is("12: had", z.entry(0, 3000), 0);
        Due.is("12: had the most", z.entry(0, -1), 3000);
        Due.is("12: had none", z.entry(0, 5), -1);
        Due.is("12: place 3001", z.entry(0, 3001), -2);
        Due.is("12: place -2", z.entry(0, -2), -2);
        Due.is("12: unchanged", z.entry(0, 6), 5);
        Due.is("12: entry 95", z.entry(95, 1), -1);
        Due.is("12: entry 95 has it", z.entry(95, 2), 1);
        Due.is("12: entry 96", z.entry(96, 1), -1);
        Due.is("12: entry -1", z.entry(-1, 1), -1);
        Due.is("12: -1 before -2", z.entry(96, 3001), -1);
        Due.is("12: in version 1 too", new Watched(1).entry(40, 3001), -2);
    }

    private static void promise13plain() {
        for (int version = 1; version <= 8; version++) {
            Due.is("13: alphabet 0", told(version, 6, 31, 0, 7), "az b");
        }
        String old = "0123456789.,!?_#'\"/\\<-:()";
        String third = "\r0123456789.,!?_#'\"/\\-:()";
        for (int number = 7; number <= 31; number++) {
            Due.is("13: old third", told(1, 3, number), old.substring(number - 7, number - 6));
            Due.is("13: third of 2", told(2, 3, number), third.substring(number - 7, number - 6));
            Due.is("13: third", told(3, 5, number), third.substring(number - 7, number - 6));
            Due.is("13: third of 8", told(8, 5, number), third.substring(number - 7, number - 6));
        }
        Due.is("13: 1 of version 1", told(1, 6, 1, 6), "a\ra");
        Due.is("13: shifts of version 1", told(1, 2, 6, 6, 3, 7, 6), "Aa0a");
        Due.is("13: locks of version 1", told(1, 4, 6, 6, 5, 6), "AAa");
        Due.is("13: locks of version 2", told(2, 5, 8, 8, 4, 6, 6), "00aa");
        Due.is("13: shifts from a lock", told(2, 4, 3, 6, 6, 2, 8, 6), "aA0A");
        Due.is("13: shift of lock 2", told(1, 5, 2, 6, 3, 6, 7), "aA0");
        Due.is("13: lock twice", told(2, 5, 5, 6), "A");
        Due.is("13: shifts of version 3", told(3, 4, 6, 6, 5, 8, 6), "Aa0a");
        Due.is("13: shift and space", told(3, 4, 0, 6), " a");
        Due.is("13: shift and space of 1", told(1, 2, 0, 6), " a");
        Due.is("13: shift and new line of 1", told(1, 3, 1, 7), "\rb");
        Due.is("13: two shifts", told(3, 4, 5, 8, 6), "0a");
        Due.is("13: shift, then its like", told(3, 5, 4, 6, 6), "Aa");
        Due.is("13: two shifts of 1", told(1, 2, 3, 7, 6), "0a");
        Due.is("13: shift, then lock", told(1, 2, 5, 7), "0");
        Due.is("13: lock, then shift", told(1, 4, 2, 7, 6), "0A");
        Due.is("13: escape", told(3, 5, 6, 2, 1, 6), "Aa");
        Due.is("13: highest escape", told(3, 5, 6, 31, 31, 6), "\u03ffa");
        Due.is("13: least escape", told(3, 5, 6, 0, 0, 6), "\u0000a");
        Due.is("13: escape's parts are not shifts", told(3, 5, 6, 4, 5, 6), "\u0085a");
        Due.is("13: escape of lock 2", told(1, 5, 6, 2, 1, 7), "A0");
        Due.is("13: 6 of alphabet 1 is none", told(3, 4, 6), "A");
        Due.is("13: escape with one", told(3, 6, 5, 6, 3), "a\u0065");
        Due.is("13: escape lacks one", told(3, 6, 6, 6, 5, 6, 1), "aaa");
        Due.is("13: escape lacks both", told(3, 6, 5, 6), "a");
        Due.is("13: nothing but 5s", told(3, 5, 5, 5), "");
        Due.is("13: nothing but 0s in the last word", told(3, 6, 6, 6, 0, 0, 0), "aaa   ");
    }

    private static void promise13abbreviations() {
        for (int version = 2; version <= 8; version++) {
            Watched z = new Watched(version);
            z.entry(31, z.put(6, 7, 8));
            z.entry(32, z.put(9));
            z.entry(95, z.put(10, 11));
            z.tell(z.put(20, 1, 31, 20));
            Due.is("13: entry 31 of " + version, z.row(), "oabco");
            if (version > 2) {
                z.tell(z.put(2, 0, 3, 31, 6));
                Due.is("13: entries 32, 95 of " + version, z.row(), "defa");
            }
        }
        Watched z = new Watched(3);
        z.entry(0, z.put(6, 4));
        z.tell(z.put(4, 1, 0, 7));
        Due.is("13: shift means nothing to an abbreviation, nor leaks out of it", z.row(), "ab");
        z = new Watched(2);
        z.entry(0, z.put(6, 4, 6));
        z.tell(z.put(4, 6, 1, 0, 6));
        Due.is("13: abbreviation from alphabet 0, its locks its own", z.row(), "AaAA");
        z.tell(z.put(2, 1, 0, 6));
        Due.is("13: shift before an abbreviation", z.row(), "aAa");
        z.tell(z.put(6, 6, 1));
        Due.is("13: abbreviation lacks its number", z.row(), "aa");
        z = new Watched(3);
        z.entry(1, z.put(6, 5, 6));
        z.tell(z.put(1, 1, 7));
        Due.is("13: escape in an abbreviation lacks its numbers", z.row(), "ab");
        z.entry(2, 3000);
        z.entry(3, z.put(5, 5, 5));
        Due.is("13: abbreviation of nothing", z.tell(z.put(1, 3, 7)), 1);
    }

    private static void promise13faults() {
        Watched z = new Watched(3);
        Due.is("13: place -1", z.tell(-1), -2);
        Due.is("13: place 3001", z.tell(3001), -2);
        Due.is("13: place 3000", z.tell(3000), -12);
        Due.is("13: nothing there", z.tell(0), -12);
        z.feed(0x94, 1);
        Due.is("13: half a word", z.tell(0), -12);
        z = new Watched(3);
        int open = z.putOpen(6, 7, 8);
        Due.is("13: no last word", z.tell(open), -12);
        z.keep(0);

        z.setRow("kept");
        int none = z.put(6, 1, 9);
        Due.is("13: entry without a place", z.tell(none), -13);
        Due.is("13: row is kept", z.row().equals("kept") ? 1 : 0, 1);
        z.entry(9, 3000);
        Due.is("13: entry outside memory", z.tell(none), -12);
        z.entry(9, none);
        Due.is("13: abbreviation within one", z.tell(none), -11);
        z.entry(9, z.put(6, 6, 2));
        Due.is("13: within one, its number lacks", z.tell(none), -11);
        Due.is("13: that is fine outside of one", z.tell(z.put(6, 6, 2)), 2);
        z.entry(9, z.putOpen(6, 6, 6));
        Due.is("13: abbreviation runs out of memory", z.tell(none), -12);

        Watched two = new Watched(3);
        two.entry(0, two.putOpen(6, 6, 3));
        Due.is("13: 1 comes before 2", two.tell(two.put(1, 0)), -11);
        two.keep(2);
        Due.is("13: within, then memory ends", two.tell(0), -12);
        Watched three = new Watched(3);
        Due.is("13: 3 comes before 2", three.tell(three.putOpen(1, 5, 6)), -13);
        three.keep(0);
        Due.is("13: 2 comes before 3", three.tell(three.putOpen(6, 6, 1)), -12);
        Watched old = new Watched(2);
        old.entry(0, old.put(2, 6, 3, 8));
        old.tell(old.put(1, 0));
        Due.is("13: 2, 3 in an abbreviation of version 2", old.row(), "A0");
        old.entry(0, old.put(6, 6, 1));
        Due.is("13: 1 in one of version 2", old.tell(old.put(1, 0)), -11);
        Due.is("13: no abbreviations in version 1", told(1, 6, 1, 6), "a\ra");
    }

    private static void promise13most() {
        Watched z = new Watched(3);
        z.fillRow(500);
        z.entry(0, z.make(0));
        int exact = z.put(1, 0, 1, 0);
        int more = z.put(1, 0, 1, 0, 6);
        int unknown = z.put(1, 0, 1, 0, 6, 1, 1);
        int early = z.put(1, 0, 1, 1, 1, 0);
        Due.is("13: 1000 signs", z.tell(exact), 1000);
        z.setRow("q");
        z.feed(1 << 10 | 0 << 5 | 1, 2);
        int half = z.feed(0 << 10 | 5 << 5 | 5, 2) - 4;
        z.feed(0x7F, 1);
        Due.is("13: half a word behind 1000 signs", z.tell(half), -12);
        z.keep(half);
        Due.is("13: 1001st sign", z.tell(more), -14);
        Due.is("13: row is kept", z.row(), "q");
        Due.is("13: 4 comes before 3", z.tell(unknown), -14);
        Due.is("13: 3 comes before 4", z.tell(early), -13);
        z.entry(1, z.put(5, 5, 5));
        Due.is("13: nothing more at 1000", z.tell(z.put(1, 0, 1, 0, 1, 1, 4, 5, 6)), 1000);
        z.entry(1, z.put(6));
        Due.is("13: 1001st in an abbreviation", z.tell(z.put(1, 0, 1, 0, 1, 1)), -14);
        Due.is("13: 1001st, a space", z.tell(z.put(1, 0, 1, 0, 0)), -14);
        Due.is("13: 1001st, of an escape", z.tell(z.put(1, 0, 1, 0, 5, 6, 1, 1)), -14);
    }

    private static void promise14() {
        Watched z = new Watched(3);
        int first = z.put(6, 7, 8, 9);
        int second = z.put(1, 0, 6);
        Due.is("14: before", z.behind(), 0);
        z.tell(first);
        Due.is("14: behind the first", z.behind(), 4);
        z.entry(0, first);
        z.tell(second);
        Due.is("14: its own, not of abbreviations", z.behind(), 6);
        Due.is("14: refused", z.tell(-1), -2);
        Due.is("14: a refusal changes nothing", z.behind(), 6);
        Due.is("14: refused above", z.tell(3001), -2);
        Due.is("14: a refusal changes nothing", z.behind(), 6);
        Due.is("14: a fault", z.tell(6), -12);
        Due.is("14: behind a fault", z.behind(), 0);
        z.tell(2);
        Due.is("14: told again", z.behind(), 4);
        z.keep(0);
        Due.is("14: stays", z.behind(), 4);
        z.feed(0, 1);
        z.feed(0x94A5, 2);
        Due.is("14: odd place", z.tell(1), 0);
        Due.is("14: behind it", z.behind(), 3);
    }

    private static void promise15and16plain() {
        for (int version = 1; version <= 8; version++) {
            Due.is("16: empty", made(version, ""), "5 5 5");
            Due.is("16: letters", made(version, "az"), "6 31 5");
            Due.is("16: space", made(version, "a a"), "6 0 6");
            Due.is("16: four", made(version, "abcd"), "6 7 8 9 5 5");
        }
        Due.is("16: shifts of 1", made(1, "A0"), "2 6 3 7 5 5");
        Due.is("16: shifts of 2", made(2, "A0"), "2 6 3 8 5 5");
        Due.is("16: shifts of 3", made(3, "A0"), "4 6 5 8 5 5");
        Due.is("16: shifts of 8", made(8, "Z)"), "4 31 5 31 5 5");
        Due.is("16: 13 of 1", made(1, "\r"), "1 5 5");
        Due.is("16: 13 of 2", made(2, "\r"), "3 7 5");
        Due.is("16: 13 of 3", made(3, "\r"), "5 7 5");
        Due.is("16: < of 1", made(1, "<"), "3 27 5");
        Due.is("16: < of 2", made(2, "<"), "3 6 1 28 5 5");
        Due.is("16: < of 3", made(3, "<"), "5 6 1 28 5 5");
        Due.is("16: highest", made(4, "\u03ff"), "5 6 31 31 5 5");
        Due.is("16: 0", made(1, "\u0000"), "3 6 0 0 5 5");

        Watched z = new Watched(3);
        Due.is("15: empty", z.numbers(0), 0);
        Due.is("15: empty, best", z.numbers(1), 0);
        z.setRow("aA @");
        Due.is("15: as it is", z.numbers(0), 8);
        Due.is("15: -1", z.numbers(-1), -2);
        Due.is("15: 2", z.numbers(2), -2);
        Due.is("15: row stays", z.row(), "aA @");
        Due.is("16: -1", z.make(-1), -2);
        Due.is("16: 2", z.make(2), -2);
        Due.is("16: begins", z.make(0), 0);
        Due.is("16: three words", z.memory(), 6);
        Due.is("16: begins behind", z.make(0), 6);
        Due.is("16: only the last is told last", z.byteAt(0) < 128 && z.byteAt(2) < 128 && z.byteAt(4) >= 128 ? 1 : 0, 1);
        Due.is("16: row stays", z.row(), "aA @");
        Due.is("16: told again", z.tell(6), 4);
        Due.is("16: the same", z.row(), "aA @");
    }

    private static void promise16room() {
        Watched z = new Watched(3);
        z.setRow("abcd");
        z.fillMemory(2997);
        Due.is("16: no room", z.make(0), -4);
        Due.is("16: no room, best", z.make(1), -4);
        Due.is("16: -2 before -4", z.make(2), -2);
        Due.is("16: nothing came", z.memory(), 2997);
        z.keep(2996);
        Due.is("16: just room", z.make(0), 2996);
        Due.is("16: full", z.memory(), 3000);
        z.sign(-1);
        Due.is("16: not even for an empty row", z.make(0), -4);
        Due.is("15: needs no room", z.numbers(0), 0);
        z = new Watched(3);
        z.fillRow(1000);
        Due.is("15: the longest row", z.numbers(0), 1000);
        z.sign(-1);
        for (int k = 0; k < 125; k++) {
            z.type(-1L, 8);
        }
        Due.is("15: the longest numbers", z.numbers(0), 4000);
        Due.is("16: the longest", z.make(0), 0);
        Due.is("16: its bytes", z.memory(), 2668);
        Due.is("16: told again", z.tell(0), 1000);
        Due.is("16: the same", z.at(999), 255);
        Due.is("16: no room twice", z.make(1), -4);
    }

    private static void promise16letters() {
        Watched z = new Watched(5);
        z.alphabet(1, 6, 'z');
        z.setRow("z");
        Due.is("16: lowest alphabet", z.made(0), "31 5 5");
        z.alphabet(0, 31, 'a');
        z.setRow("az");
        Due.is("16: lowest number; then alphabet 1", z.made(0), "6 4 6");
        z.alphabet(0, 8, 32);
        z.alphabet(0, 9, 13);
        z.setRow(" \r");
        Due.is("16: space stays 0, 13 may be a letter", z.made(0), "0 9 5");
        z.tell(z.put(8, 9));
        Due.is("13: such letters are told", z.row(), " \r");
        z.alphabet(0, 6, 'q');
        z.setRow("a");
        Due.is("16: 31 has it now", z.made(0), "31 5 5");
    }

    private static void promise16best() {
        Due.is("16: none in version 1", Watched.withEntries(1, "aaaa").best("aaaa"), "6 6 6 6");
        Due.is("16: one", Watched.withEntries(2, "aaaa").best("aaaa"), "1 0");
        Due.is("16: one of 3", Watched.withEntries(3, "aaaa").best("baaaab"), "7 1 0 7");
        Due.is("16: not the greedy one", Watched.withEntries(3, "abc", "bcdefg").best("abcdefg"), "6 1 1");
        Due.is("16: as few: the abbreviation is less", Watched.withEntries(3, "ab").best("ab"), "1 0");
        Due.is("16: as few: a space is less", Watched.withEntries(3, " a").best(" a"), "0 6");
        Due.is("16: fewer with the space within", Watched.withEntries(3, " ab").best(" ab"), "1 0");
        Due.is("16: as few: the lower entry", Watched.withEntries(3, "abc", "abc").best("abc"), "1 0");
        Due.is("16: earlier one first", Watched.withEntries(3, "bcd", "abc").best("abcd"), "1 1 9");
        Due.is("16: one sign, two numbers", Watched.withEntries(3, "A").best("AA"), "1 0 1 0");
        Due.is("16: one sign, as few: less than shift 4", Watched.withEntries(3, "A").best("A"), "1 0");
        Due.is("16: one letter is never best", Watched.withEntries(3, "a").best("a"), "6");
        Due.is("16: codes are dear", Watched.withEntries(3, "@").best("@a@"), "1 0 6 1 0");
        Due.is("16: entry of nothing", Watched.withEntries(3, "").best("ab"), "6 7");
        Due.is("16: longer than the row", Watched.withEntries(3, "abcd").best("abc"), "6 7 8");
        Due.is("16: overlapping ones", Watched.withEntries(3, "aaa").best("aaaaaaa"), "1 0 1 0 6");
        Due.is("16: empty row", Watched.withEntries(3, "aaa").best(""), "");

        Watched z = Watched.withEntries(3, "abcdef");
        int place = z.entry(0, -1);
        z.entry(31, place);
        Due.is("16: entry 31", z.best("abcdef"), "1 31");
        z.entry(31, -1);
        z.entry(32, place);
        Due.is("16: entry 32", z.best("abcdef"), "2 0");
        z.entry(32, -1);
        z.entry(64, place);
        z.entry(95, place);
        Due.is("16: entry 64", z.best("abcdef"), "3 0");
        z.entry(64, -1);
        Due.is("16: entry 95", z.best("abcdef"), "3 31");
        z.entry(5, 3000);
        Due.is("16: one with a fault beside it", z.best("abcdef"), "3 31");
        z.poke(place + 2, z.byteAt(place + 2) & 127);
        z.keep(place + 4);
        Due.is("16: it has a fault now", z.numbers(1), 6);

        z = Watched.withEntries(2, "abcdef");
        z.entry(32, z.entry(0, -1));
        Due.is("16: not 32 in version 2", z.best("abcdef"), "6 7 8 9 10 11");
        z.entry(31, z.entry(32, -1));
        Due.is("16: 31 in version 2", z.best("abcdef"), "1 31");
        z = new Watched(3);
        z.entry(0, z.put(6, 7, 8));
        z.entry(1, z.put(1, 0, 9));
        Due.is("16: none with an abbreviation within", z.best("abcd"), "1 0 9");
        z.entry(2, z.put(6, 7, 8, 9, 10, 1));
        Due.is("16: none with the number of one", z.best("abcde"), "1 0 9 10");
        z.entry(3, z.put(6, 7, 8, 9, 5, 6));
        Due.is("16: one that lacks numbers", z.best("abcde"), "1 3 10");
        Due.is("16: told back", z.tell(z.make(1)), 5);
        Due.is("16: told back the same", z.row(), "abcde");
    }

    private static void promise16bestLong() {
        Watched z = new Watched(3);
        z.fillRow(1000);
        z.entry(7, z.make(0));
        Due.is("15: all of the longest row", z.numbers(1), 2);
        z.entry(7, z.put(6, 6, 6, 6, 6, 6, 6));
        Due.is("15: the longest row in sevens", z.numbers(1), 2 * 142 + 6);
        int place = z.make(1);
        Due.is("16: told back", z.tell(place), 1000);
    }

    private static void promise17to19() {
        for (int version = 1; version <= 8; version++) {
            Watched z = new Watched(version);
            int bytes = version <= 3 ? 4 : 6;
            z.setRow("lantern");
            Due.is("17: first", z.word(), 0);
            z.setRow("lanterns");
            Due.is("17: cut or not", z.word(), version <= 3 ? 0 : 1);
            z.setRow("lanternists");
            z.word();
            z.setRow("lanternis");
            Due.is("17: cut at nine", z.word(), version <= 3 ? 0 : 2);
            Due.is("19: words", z.words(), version <= 3 ? 1 : 3);
            Due.is("18: the first byte", z.wordByte(0, 0), 17 << 2 | 6 >> 3);
            Due.is("18: behind", z.wordByte(0, bytes), -1);
            Due.is("18: below", z.wordByte(0, -1), -1);
            Due.is("18: no such", z.wordByte(version <= 3 ? 1 : 3, 0), -1);
            Due.is("18: none below", z.wordByte(-1, 0), -1);
            Due.is("18: last is told last", z.wordByte(0, bytes - 2) >> 7, 1);
            Due.is("18: the one before is not", z.wordByte(0, bytes - 4) >> 7, 0);
            Due.is("17: row stays", z.row(), "lanternis");
        }
        Watched z = new Watched(3);
        Due.is("17: of an empty row", z.word(), 0);
        Due.is("18: 5s", z.wordByte(0, 0) << 8 | z.wordByte(0, 1), 0x14A5);
        Due.is("18: 5s at the end", z.wordByte(0, 2) << 8 | z.wordByte(0, 3), 0x94A5);
        z.setRow("abcd@");
        Due.is("17: cut in a code", z.word(), 1);
        Due.is("18: shift and escape are left", z.wordByte(1, 2) << 8 | z.wordByte(1, 3), 32768 | 9 << 10 | 5 << 5 | 6);
        z.setRow("abcd<");
        Due.is("17: equal when cut", z.word(), 1);
        z.entry(0, 0);
        z.feed(0x98E8, 2);
        z.setRow("abc");
        Due.is("17: without abbreviations", z.word(), 2);
        Due.is("18: letters", z.wordByte(2, 0) << 8 | z.wordByte(2, 1), 6 << 10 | 7 << 5 | 8);
        z.setRow("ABC");
        Due.is("17: capitals are others", z.word(), 3);
        z.setRow("abc");
        Due.is("17: that of before", z.word(), 2);
    }

    private static void promise17most() {
        Watched z = new Watched(4);
        for (int k = 0; k < 40; k++) {
            z.sign(-1);
            z.sign('a' + k / 26);
            z.sign('a' + k % 26);
            Due.is("17: word " + k, z.word(), k);
        }
        z.setRow("zz");
        Due.is("17: there are 40", z.word(), -4);
        Due.is("19: still 40", z.words(), 40);
        z.setRow("bn");
        Due.is("17: one of them", z.word(), 39);
        Due.is("18: of the last", z.wordByte(39, 0), 7 << 2 | 19 >> 3);
        Due.is("18: no 41st", z.wordByte(40, 0), -1);
    }

    private static void promise20() {
        Watched z = new Watched(3);
        Due.is("20: was not", z.separator(0, true), 0);
        Due.is("20: was", z.separator(0, true), 1);
        Due.is("20: was, is no more", z.separator(0, false), 1);
        Due.is("20: was not again", z.separator(0, false), 0);
        Due.is("20: highest", z.separator(1023, true), 0);
        Due.is("20: 1024", z.separator(1024, true), -2);
        Due.is("20: -1", z.separator(-1, true), -2);
        Due.is("20: 32", z.separator(32, true), -2);
        Due.is("20: 32 off", z.separator(32, false), -2);
    }

    private static String tokens(Watched z) {
        StringBuilder s = new StringBuilder();
        int count = z.part();
        for (int k = 0; k < count; k++) {
            s.append(k == 0 ? "" : " ").append(z.token(k, 0)).append('+').append(z.token(k, 1));
            s.append('=').append(z.token(k, 2));
        }
        Due.is("22: no more tokens", z.token(count, 0), -1);
        return s.toString();
    }

    private static void promise21and22() {
        Watched z = new Watched(3);
        Due.is("21: empty", z.part(), 0);
        Due.is("22: none", z.token(0, 0), -1);
        Due.is("22: -1 before -2", z.token(0, 3), -1);
        z.setRow("   ");
        Due.is("21: spaces alone", tokens(z), "");
        z.setRow("go");
        z.word();
        z.setRow(",");
        z.word();
        z.separator(',', true);
        z.separator('X', true);
        z.setRow("go");
        Due.is("21: one", tokens(z), "0+2=0");
        z.setRow(" Go  west,,gO");
        Due.is("21: many", tokens(z), "1+2=0 5+4=-1 9+1=1 10+1=1 11+2=0");
        Due.is("22: k -1", z.token(-1, 0), -1);
        Due.is("22: what -1", z.token(0, -1), -2);
        Due.is("22: what 3", z.token(0, 3), -2);
        Due.is("22: -1 before -2", z.token(5, 3), -1);
        z.setRow(",go,");
        Due.is("21: at the ends", tokens(z), "0+1=1 1+2=0 3+1=1");
        z.setRow("aXbxc");
        Due.is("21: a separator is the sign itself", tokens(z), "0+1=-1 1+1=-1 2+3=-1");
        z.setRow("x");
        z.word();
        z.setRow("X");
        Due.is("21: its word is the small one's", tokens(z), "0+1=2");
        z.separator('X', false);
        z.setRow("go\rgo");
        Due.is("21: 13 parts nothing", tokens(z), "0+5=-1");
        z.separator(13, true);
        Due.is("21: till it is one", tokens(z), "0+2=0 2+1=-1 3+2=0");
        z.setRow("new");
        Due.is("22: unknown", tokens(z), "0+3=-1");
        z.word();
        Due.is("22: as the dictionary was then", z.token(0, 2), -1);
        z.sign(-1);
        Due.is("22: they stay", z.token(0, 1), 3);
        Due.is("21: empty again", z.part(), 0);
        Due.is("22: gone", z.token(0, 0), -1);
        z.setRow("NEWARK");
        z.word();
        Due.is("22: a word of capitals is not found", tokens(z), "0+6=-1");
        z.setRow("newark");
        z.word();
        z.setRow("NEWARKER");
        Due.is("22: cut as the word is", tokens(z), "0+8=5");
        z.setRow("NEWARK");
        Due.is("21: the row stays", z.row(), "NEWARK");
        z.setRow("zap");
        z.word();
        z.setRow("`{");
        z.word();
        z.setRow("ZAP @[");
        Due.is("22: A to Z alone are made small", tokens(z), "0+3=6 4+2=-1");
    }

    private static void promise21most() {
        Watched z = new Watched(6);
        z.separator('a', true);
        z.fillRow(1000);
        Due.is("21: a thousand", z.part(), 1000);
        Due.is("22: the last", z.token(999, 0), 999);
        Due.is("22: the last's length", z.token(999, 1), 1);
        Due.is("22: no more", z.token(1000, 0), -1);
        z.separator('a', false);
        Due.is("22: they stay", z.token(999, 0), 999);
        Due.is("21: one long", z.part(), 1);
        Due.is("22: its length", z.token(0, 1), 1000);
        Due.is("22: the others are gone", z.token(1, 0), -1);
    }

    private static void refusalsChangeNothing() {
        Watched z = Watched.withEntries(5, "abc");
        z.setRow("abc");
        z.word();
        z.part();
        z.tell(0);
        z.feed(1, 9);
        z.poke(0, 999);
        z.keep(99);
        z.sign(5000);
        z.type(1, -3);
        z.alphabet(0, 6, 2000);
        z.entry(0, 9999);
        z.tell(4000);
        z.make(7);
        z.numbers(7);
        z.separator(32, true);
        z.token(0, 7);
        Due.is("refusals: memory", z.memory(), 2);
        Due.is("refusals: byte", z.byteAt(0), 128 | 6 << 2);
        Due.is("refusals: row", z.row(), "abc");
        Due.is("refusals: letter", z.alphabet(0, 6, 97), 97);
        Due.is("refusals: entry", z.entry(0, 0), 0);
        Due.is("refusals: behind", z.behind(), 2);
        Due.is("refusals: token", z.token(0, 2), 0);
    }

    public static void main(String[] args) {
        promise1and2();
        promise3and4();
        promise5and6();
        promise7to10();
        promise11();
        promise12();
        promise13plain();
        promise13abbreviations();
        promise13faults();
        promise13most();
        promise14();
        promise15and16plain();
        promise16room();
        promise16letters();
        promise16best();
        promise16bestLong();
        promise17to19();
        promise17most();
        promise20();
        promise21and22();
        promise21most();
        refusalsChangeNothing();
        Due.end();
    }
}
