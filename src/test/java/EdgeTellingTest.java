import java.util.Arrays;

/**
 * Promises 13 and 14, with what the document's TERMS say of TELLING and of FAULTS: each sentence that
 * names a boundary has a test of its own, at the boundary and at the values next to it.
 */
public final class EdgeTellingTest {
    private static final int LEAST = Integer.MIN_VALUE;
    private static final int MOST = Integer.MAX_VALUE;
    private static final int[] OF_OLD_SHIFTS = {1, 2};
    private static final int[] OF_NEW_SHIFTS = {3, 4, 5, 6, 7, 8};

    private static String told(int version, int... numbers) {
        Watched z = new Watched(version);
        return z.told(z.put(numbers));
    }

    /** ENTRY 0 is "q" here, ENTRY 32 "r", ENTRY 64 "s". */
    private static String toldWithEntries(int version, int... numbers) {
        Watched z = new Watched(version);
        z.entry(0, z.put(22));
        z.entry(32, z.put(23));
        z.entry(64, z.put(24));
        return z.told(z.put(numbers));
    }

    private static int[] joined(int[]... parts) {
        return Arrays.stream(parts).flatMapToInt(Arrays::stream).toArray();
    }

    private static int[] repeated(int times, int... numbers) {
        int[] all = new int[times * numbers.length];
        for (int k = 0; k < all.length; k++) {
            all[k] = numbers[k % numbers.length];
        }
        return all;
    }

    // ---- Promise 13: "-2 the place is not 0 .. 3000"

    private static void promise13PlaceOutside() {
        Watched z = new Watched(3);
        z.put(6, 7, 8);
        z.setRow("kept");
        Due.is("promise 13: place -1", z.tell(-1), -2);
        Due.is("promise 13: place -2", z.tell(-2), -2);
        Due.is("promise 13: place 3001", z.tell(3001), -2);
        Due.is("promise 13: place 3002", z.tell(3002), -2);
        Due.is("promise 13: least place", z.tell(LEAST), -2);
        Due.is("promise 13: most place", z.tell(MOST), -2);
        Due.is("promise 13: refused ones change nothing", z.row(), "kept");
        Due.is("promise 13: place 3000 is none of them", z.tell(3000), -12);
        Due.is("promise 13: place 2999 is none of them", z.tell(2999), -12);
        Due.is("promise 13: place 0", z.tell(0), 3);
        Due.is("promise 13: place 1", z.tell(1), -12);
    }

    private static void promise13LastPlacesOfFullMemory() {
        Watched z = new Watched(3);
        z.fillMemory(2998);
        z.put(6, 7, 8);
        Due.is("promise 13: place 2998", z.told(2998), "abc");
        Due.is("promise 14: behind 3000", z.behind(), 3000);
        Due.is("promise 13: place 2996", z.told(2996), "   abc");
        Due.is("promise 13: place 2999", z.tell(2999), -12);
        Due.is("promise 13: place 3000", z.tell(3000), -12);
        Due.is("promise 13: place 3001", z.tell(3001), -2);
        z.poke(2998, 127);
        Due.is("promise 13: memory's last WORD is not the last", z.tell(2998), -12);
    }

    // ---- Promise 13: "THE ROW is what is told: how many SIGNS"

    private static void promise13TheRowIsWhatIsTold() {
        Watched z = new Watched(3);
        int none = z.put();
        int one = z.put(6);
        int four = z.put(6, 7, 8, 9);
        z.setRow("something else");
        Due.is("promise 13: one sign", z.tell(one), 1);
        Due.is("promise 13: the row is it", z.row(), "a");
        Due.is("promise 13: four signs", z.tell(four), 4);
        Due.is("promise 13: the row is they", z.row(), "abcd");
        Due.is("promise 13: four again", z.tell(four), 4);
        Due.is("promise 13: no sign", z.tell(none), 0);
        Due.is("promise 13: the row is empty", z.size(), 0);
        Due.is("promise 13: nothing at 0", z.at(0), -1);
        z.fillRow(1000);
        Due.is("promise 13: in place of a full row", z.tell(one), 1);
        Due.is("promise 13: one alone", z.at(1), -1);
    }

    // ---- TELLING: "WORDS of two bytes, the higher first: a bit that tells the last WORD, then three numbers"

    private static void promise13LastWordsBit() {
        Watched z = new Watched(3);
        z.feed(0x7FFF8000L, 4);
        Due.is("promise 13: 7F FF is not the last, 80 00 is", z.told(0), "zzz   ");
        Due.is("promise 13: 80 00", z.told(2), "   ");
        z.feed(0xFFFFL, 2);
        Due.is("promise 13: FF FF", z.told(4), "zzz");
        z.poke(2, 0);
        Due.is("promise 13: 00 00 is not the last", z.told(0), "zzz   zzz");
        z.poke(4, 0x7F);
        Due.is("promise 13: none is the last", z.told(0), "FAULT 2");
    }

    private static void promise13NumbersOfAWord() {
        for (int number = 6; number <= 31; number++) {
            String letter = "" + (char) (91 + number);
            Due.is("promise 13: first, " + number, told(3, number, 0, 0), letter + "  ");
            Due.is("promise 13: second, " + number, told(3, 0, number, 0), " " + letter + " ");
            Due.is("promise 13: third, " + number, told(3, 0, 0, number), "  " + letter);
        }
    }

    private static void promise13OddPlacesAndMiddles() {
        Watched z = new Watched(3);
        z.feed(0xFF, 1);
        int place = z.put(6, 7, 8, 9, 10, 11, 12);
        Due.is("promise 13: an odd place", z.told(place), "abcdefg");
        Due.is("promise 13: its second word", z.told(place + 2), "defg");
        Due.is("promise 13: its last word", z.told(place + 4), "g");
        Due.is("promise 13: behind it", z.told(place + 6), "FAULT 2");
    }

    // ---- TELLING: "ALPHABET 0 is LOCKED at first"

    private static void promise13Alphabet0AtFirst() {
        Watched z = new Watched(1);
        int locks = z.put(4, 6, 6);
        int shifts = z.put(6, 6, 2);
        int escapes = z.put(6, 3, 6);
        int plain = z.put(9, 9, 9);
        Due.is("promise 13: locked", z.told(locks), "AA");
        Due.is("promise 13: the lock is gone", z.told(plain), "ddd");
        Due.is("promise 13: a shift at the end", z.told(shifts), "aa");
        Due.is("promise 13: the shift is gone", z.told(plain), "ddd");
        Due.is("promise 13: an escape at the end", z.told(escapes), "a");
        Due.is("promise 13: the escape is gone", z.told(plain), "ddd");
    }

    private static void promise13Alphabet0AtFirstBehindAFault() {
        Watched z = new Watched(3);
        int plain = z.put(9, 9, 9);
        int[][] opens = {{9, 9, 4}, {9, 5, 6}, {5, 6, 2}, {9, 9, 1}, {9, 9, 3}};
        for (int[] open : opens) {
            int place = z.putOpen(open);
            Due.is("promise 13: memory ends", z.told(place), "FAULT 2");
            Due.is("promise 13: nothing of it holds", z.told(plain), "ddd");
            z.keep(place);
        }
        z.entry(0, z.put(9, 5, 6));
        z.entry(1, z.put(9, 1, 6));
        Due.is("promise 13: an entry's fault", z.told(z.put(1, 1)), "FAULT 1");
        Due.is("promise 13: entry that lacks numbers", z.told(z.put(1, 0, 1, 0, 9)), "ddd");
    }

    // ---- TELLING: "0: SIGN 32. 1: VERSION 1: SIGN 13; VERSION 2 and on: ABBREVIATION"

    private static void promise13ZeroIsASpaceInEachAlphabet() {
        for (int version : OF_OLD_SHIFTS) {
            Due.is("promise 13: 0 locked in 1", told(version, 4, 0, 9), " D");
            Due.is("promise 13: 0 locked in 2", told(version, 5, 0, 31), " )");
            Due.is("promise 13: 0 shifted", told(version, 2, 0, 9), " d");
        }
        for (int version : OF_NEW_SHIFTS) {
            Due.is("promise 13: 0", told(version, 0, 0, 9), "  d");
            Due.is("promise 13: 0 shifted to 1", told(version, 4, 0, 9), " d");
            Due.is("promise 13: 0 shifted to 2", told(version, 5, 0, 9), " d");
        }
    }

    private static void promise13OneByVersion() {
        Due.is("promise 13: 1 of version 1", toldWithEntries(1, 1, 0, 9), "\r d");
        Due.is("promise 13: 1 locked in 1", toldWithEntries(1, 4, 1, 9), "\rD");
        Due.is("promise 13: 1 locked in 2", toldWithEntries(1, 5, 1, 9), "\r2");
        for (int version = 2; version <= 8; version++) {
            Due.is("promise 13: 1 of version " + version, toldWithEntries(version, 1, 0, 9), "qd");
        }
    }

    private static void promise13TwoAndThreeByVersion() {
        Due.is("promise 13: 2 of version 1", toldWithEntries(1, 2, 9, 9), "Dd");
        Due.is("promise 13: 3 of version 1", toldWithEntries(1, 3, 9, 9), "2d");
        Due.is("promise 13: 2 of version 2", toldWithEntries(2, 2, 9, 9), "Dd");
        Due.is("promise 13: 3 of version 2", toldWithEntries(2, 3, 9, 9), "1d");
        for (int version : OF_NEW_SHIFTS) {
            Due.is("promise 13: 2 of version " + version, toldWithEntries(version, 2, 0, 9), "rd");
            Due.is("promise 13: 3 of version " + version, toldWithEntries(version, 3, 0, 9), "sd");
        }
    }

    private static void promise13FourAndFiveByVersion() {
        for (int version : OF_OLD_SHIFTS) {
            Due.is("promise 13: 4 locks in version " + version, told(version, 4, 9, 9), "DD");
            Due.is("promise 13: 5 locks in version " + version, told(version, 5, 31, 31), "))");
        }
        for (int version : OF_NEW_SHIFTS) {
            Due.is("promise 13: 4 is for one in version " + version, told(version, 4, 9, 9), "Dd");
            Due.is("promise 13: 5 is for one in version " + version, told(version, 5, 31, 31), ")z");
        }
    }

    // ---- TELLING: "the LOCKED one and 1, and 2 (modulo 3)"

    private static void promise13ShiftsWrapAround() {
        int[][] locks = {{}, {4}, {5}};
        for (int version : OF_OLD_SHIFTS) {
            String letters = version == 1 ? "dD2" : "dD1";
            for (int locked = 0; locked < 3; locked++) {
                for (int shift = 2; shift <= 3; shift++) {
                    String want = "" + letters.charAt((locked + shift - 1) % 3) + letters.charAt(locked);
                    int[] numbers = joined(locks[locked], new int[] {shift, 9, 9});
                    String got = told(version, joined(numbers, new int[6 - numbers.length])).stripTrailing();
                    Due.is("promise 13: version " + version + ", locked " + locked + ", shift " + shift, got, want);
                }
            }
        }
    }

    private static void promise13LocksWrapAround() {
        for (int version : OF_OLD_SHIFTS) {
            String letters = version == 1 ? "dD2" : "dD1";
            for (int row = 0; row < 16; row++) {
                int[] numbers = new int[6];
                int locked = 0;
                for (int k = 0; k < 4; k++) {
                    int lock = (row >> k & 1) == 0 ? 4 : 5;
                    numbers[k] = lock;
                    locked = (locked + lock - 3) % 3;
                }
                numbers[4] = 9;
                numbers[5] = 9;
                String want = ("" + letters.charAt(locked)).repeat(2);
                Due.is("promise 13: version " + version + ", four locks, " + row, told(version, numbers), want);
            }
            Due.is("promise 13: 4, 4", told(version, 4, 4, 9), letters.substring(2));
            Due.is("promise 13: 4, 5", told(version, 4, 5, 9), "d");
            Due.is("promise 13: 5, 4", told(version, 5, 4, 9), "d");
            Due.is("promise 13: 5, 5", told(version, 5, 5, 9), "D");
            Due.is("promise 13: 5, 5, 5", told(version, 5, 5, 5, 9, 0, 0), "d  ");
        }
    }

    // ---- TELLING: "What holds for the next number alone holds for that, whatever it is"

    private static void promise13ShiftThen0To5OfVersion1() {
        String[] want = {" dd", "\rdd", "Dd", "2d", "DD", "22"};
        for (int n = 0; n <= 5; n++) {
            Due.is("promise 13: version 1: 2, " + n, told(1, 2, n, 9, 9, 2, 2), want[n]);
            Due.is("promise 13: version 1: 3, " + n, told(1, 3, n, 9, 9, 2, 2), want[n]);
        }
        Due.is("promise 13: locked, 2, 0", told(1, 4, 2, 0, 9, 2, 2), " D");
        Due.is("promise 13: locked, 2, 1", told(1, 4, 2, 1, 9, 2, 2), "\rD");
        Due.is("promise 13: locked, 2, 2", told(1, 4, 2, 2, 9, 9, 2), "2D");
        Due.is("promise 13: locked, 2, 3", told(1, 4, 2, 3, 9, 9, 2), "dD");
        Due.is("promise 13: locked, 2, 4", told(1, 4, 2, 4, 9, 9, 2), "22");
        Due.is("promise 13: locked, 2, 5", told(1, 4, 2, 5, 9, 9, 2), "dd");
    }

    private static void promise13ShiftThen0To5OfVersion2() {
        for (int shift = 2; shift <= 3; shift++) {
            Due.is("promise 13: version 2: shift, 0", told(2, shift, 0, 9, 9, 2, 2), " dd");
            Due.is("promise 13: version 2: shift, 1", toldWithEntries(2, shift, 1, 0, 9, 9, 2), "qdd");
            Due.is("promise 13: version 2: shift, 2", told(2, shift, 2, 9, 9, 2, 2), "Dd");
            Due.is("promise 13: version 2: shift, 3", told(2, shift, 3, 9, 9, 2, 2), "1d");
            Due.is("promise 13: version 2: shift, 4", told(2, shift, 4, 9, 9, 2, 2), "DD");
            Due.is("promise 13: version 2: shift, 5", told(2, shift, 5, 9, 9, 2, 2), "11");
        }
    }

    private static void promise13ShiftThen0To5OfOtherVersions() {
        for (int version : OF_NEW_SHIFTS) {
            for (int shift = 4; shift <= 5; shift++) {
                Due.is("promise 13: shift, 0", toldWithEntries(version, shift, 0, 9), " d");
                Due.is("promise 13: shift, 1", toldWithEntries(version, shift, 1, 0, 9, 9, 5), "qdd");
                Due.is("promise 13: shift, 2", toldWithEntries(version, shift, 2, 0, 9, 9, 5), "rdd");
                Due.is("promise 13: shift, 3", toldWithEntries(version, shift, 3, 0, 9, 9, 5), "sdd");
                Due.is("promise 13: shift, 4", toldWithEntries(version, shift, 4, 9, 9, 5, 5), "Dd");
                Due.is("promise 13: shift, 5", toldWithEntries(version, shift, 5, 9, 9, 5, 5), "1d");
            }
            Due.is("promise 13: many shifts", told(version, 5, 5, 4, 5, 4, 9), "D");
        }
    }

    private static void promise13ShiftAtTheEnd() {
        for (int version : OF_OLD_SHIFTS) {
            Due.is("promise 13: 2 at the end", told(version, 9, 9, 2), "dd");
            Due.is("promise 13: 3 at the end", told(version, 9, 9, 3), "dd");
            Due.is("promise 13: 4 at the end", told(version, 9, 9, 4), "dd");
        }
        for (int version : OF_NEW_SHIFTS) {
            Due.is("promise 13: 4 at the end", told(version, 9, 9, 4), "dd");
            Due.is("promise 13: 5 at the end", told(version, 9, 9, 5), "dd");
            Due.is("promise 13: 5s alone", told(version, 5, 5, 5), "");
        }
    }

    // ---- TELLING: "the ESCAPE: the next two numbers h, l are SIGN 32 h + l"

    private static void promise13AllCodesOfTheEscape() {
        for (int from = 0; from < 1024; from += 256) {
            Watched z = new Watched(3);
            int[] numbers = new int[4 * 256];
            for (int k = 0; k < 256; k++) {
                numbers[4 * k] = 5;
                numbers[4 * k + 1] = 6;
                numbers[4 * k + 2] = (from + k) / 32;
                numbers[4 * k + 3] = (from + k) % 32;
            }
            Due.is("promise 13: how many codes", z.tell(z.put(numbers)), 256);
            for (int k = 0; k < 256; k++) {
                Due.is("promise 13: code " + (from + k), z.at(k), from + k);
            }
        }
    }

    private static void promise13EscapeOfEachVersion() {
        for (int version : OF_OLD_SHIFTS) {
            Due.is("promise 13: escape by a shift", told(version, 3, 6, 31, 31, 9, 2), "\u03ffd");
            Due.is("promise 13: escape of a lock", told(version, 5, 6, 0, 0, 31, 2), "\u0000)");
            Due.is("promise 13: escape by a shift from a lock", told(version, 4, 2, 6, 1, 0, 9), " D");
            Due.is("promise 13: no escape in a shift to 0", told(version, 5, 2, 6), "a");
        }
        for (int version : OF_NEW_SHIFTS) {
            Due.is("promise 13: escape by a shift", told(version, 5, 6, 31, 31, 9, 5), "\u03ffd");
            Due.is("promise 13: 6 without a shift is none", told(version, 6, 6, 9), "aad");
            Due.is("promise 13: 6 of alphabet 1 is none", told(version, 4, 6, 9), "Ad");
            Due.is("promise 13: 7 of alphabet 2 is none", told(version, 5, 7, 9), "\rd");
        }
    }

    private static void promise13EscapesNumbersMeanNothingElse() {
        for (int h = 0; h <= 6; h++) {
            for (int l = 0; l <= 6; l++) {
                String want = (char) (32 * h + l) + "d";
                Due.is("promise 13: escape " + h + " " + l, told(3, 5, 6, h, l, 9, 5), want);
                Due.is("promise 13: escape of version 1, " + h + " " + l, told(1, 3, 6, h, l, 9, 2), want);
            }
        }
    }

    // ---- TELLING: "Numbers that lack at the end (of an ABBREVIATION, an ESCAPE) mean that there is nothing"

    private static void promise13EscapeLacksNumbers() {
        for (int version = 1; version <= 8; version++) {
            int shift = version <= 2 ? 3 : 5;
            Due.is("promise 13: both lack", told(version, 9, shift, 6), "d");
            Due.is("promise 13: both lack in a second word", told(version, 9, 9, 9, 9, shift, 6), "dddd");
            Due.is("promise 13: one lacks", told(version, shift, 6, 31), "");
            Due.is("promise 13: one lacks in a second word", told(version, 9, 9, 9, shift, 6, 2), "ddd");
            Due.is("promise 13: none lacks", told(version, 9, 9, shift, 6, 2, 1), "ddA");
            Due.is("promise 13: both in the last word", told(version, 9, shift, 6, 2, 1, shift), "dA");
        }
    }

    private static void promise13AbbreviationLacksItsNumber() {
        Due.is("promise 13: 1 at the end of version 1 lacks none", told(1, 9, 9, 1), "dd\r");
        Due.is("promise 13: 1 at the end of version 2", told(2, 9, 9, 1), "dd");
        for (int version : OF_NEW_SHIFTS) {
            for (int number = 1; number <= 3; number++) {
                String name = "promise 13: " + number + " at the end of version " + version;
                Due.is(name, told(version, 9, 9, number), "dd");
                Due.is(name + ", entries have places", toldWithEntries(version, 9, 9, number), "dd");
                Due.is(name + " but one", toldWithEntries(version, 9, number, 0), "d" + "qrs".charAt(number - 1));
                Due.is(name + " but one, no place", told(version, 9, number, 0), "FAULT 3");
            }
        }
    }

    private static void promise13EntryLacksNumbers() {
        Watched z = new Watched(3);
        z.entry(0, z.put(9, 5, 6));
        z.entry(1, z.put(5, 6, 2));
        z.entry(2, z.put(9, 9, 4));
        z.entry(3, z.put(9, 9, 5));
        Due.is("promise 13: an entry's escape takes none behind the entry", z.told(z.put(1, 0, 9, 9, 9, 5)), "dddd");
        Due.is("promise 13: nor its lower half", z.told(z.put(1, 1, 9, 9, 9, 5)), "ddd");
        Due.is("promise 13: an entry's shift ends with it", z.told(z.put(1, 2, 9)), "ddd");
        Due.is("promise 13: an entry's 5 ends with it", z.told(z.put(1, 3, 6)), "dda");
    }

    // ---- TELLING: "ABBREVIATION, with the next number x: ENTRY x", "ENTRIES 32 + x, 64 + x"

    private static void promise13EachEntry() {
        for (int version = 2; version <= 8; version++) {
            int entries = version == 2 ? 32 : 96;
            Watched z = new Watched(version);
            int shift = version == 2 ? 3 : 5;
            int[] texts = new int[6 * entries];
            for (int e = 0; e < entries; e++) {
                int[] text = {shift, 6, (200 + e) / 32, (200 + e) % 32, shift, shift};
                System.arraycopy(text, 0, texts, 6 * e, 6);
            }
            z.put(texts);
            for (int e = 0; e < entries; e++) {
                z.poke(4 * e + 2, z.byteAt(4 * e + 2) | 128);
                z.entry(e, 4 * e);
            }
            int[] all = new int[2 * entries];
            for (int e = 0; e < entries; e++) {
                all[2 * e] = 1 + e / 32;
                all[2 * e + 1] = e % 32;
            }
            Due.is("promise 13: how many of all entries", z.tell(z.put(all)), entries);
            for (int e = 0; e < entries; e++) {
                Due.is("promise 13: entry " + e + " of version " + version, z.at(e), 200 + e);
            }
        }
    }

    private static void promise13NumbersOfEntriesMeanNothingElse() {
        Watched z = new Watched(3);
        for (int x = 0; x <= 7; x++) {
            z.entry(x, z.put(20 + x));
            Due.is("promise 13: entry " + x, z.told(z.put(1, x, 9)), (char) (91 + 20 + x) + "d");
        }
    }

    private static void promise13AnEntryIsToldFromAlphabet0() {
        Watched z = new Watched(2);
        z.entry(0, z.put(9, 4, 9));
        z.entry(1, z.put(9, 9, 5));
        Due.is("promise 13: from a lock", z.told(z.put(4, 9, 1, 0, 9, 2)), "DdDD");
        Due.is("promise 13: from a shift", z.told(z.put(2, 1, 0, 9)), "dDd");
        Due.is("promise 13: an entry's lock ends with it", z.told(z.put(1, 1, 1, 1, 9, 2)), "ddddd");
        Due.is("promise 13: one behind another", z.told(z.put(1, 0, 1, 0, 9, 2)), "dDdDd");
        Due.is("promise 13: what was locked is locked again", z.told(z.put(5, 1, 1, 9, 4, 9)), "dd1d");
    }

    // ---- FAULT 1: "an ABBREVIATION within one (as soon as its number 1, 2, 3 comes, also where the next one lacks)"

    private static void promise13Fault1AtEachPlace() {
        for (int version = 2; version <= 8; version++) {
            for (int number = 1; number <= (version == 2 ? 1 : 3); number++) {
                int[][] texts = {{number, 0, 9}, {9, number, 0}, {9, 9, number}, {9, 9, 9, number, 0, 9},
                    {9, 9, 9, 9, 9, number}};
                for (int[] text : texts) {
                    Watched z = new Watched(version);
                    z.entry(0, z.put(9));
                    z.entry(32, 0);
                    z.entry(64, 0);
                    z.entry(7, z.put(text));
                    String name = "promise 13: version " + version + ", " + Arrays.toString(text);
                    Due.is(name + " in an entry", z.tell(z.put(1, 7)), -11);
                    Due.is(name + " by itself", z.tell(2) >= 0 ? 1 : 0, 1);
                }
            }
        }
    }

    private static void promise13NoFault1ForShifts() {
        Watched z = new Watched(2);
        z.entry(0, z.put(2, 9, 3, 9, 9, 2));
        Due.is("promise 13: 2, 3 in an entry of version 2", z.told(z.put(1, 0)), "D1d");
        z.entry(0, z.put(9, 9, 3));
        Due.is("promise 13: 3 at its end", z.told(z.put(1, 0)), "dd");
        z = new Watched(3);
        z.entry(0, z.put(4, 9, 5, 9, 9, 5));
        Due.is("promise 13: 4, 5 in an entry of version 3", z.told(z.put(1, 0)), "D1d");
        z.entry(0, z.put(5, 6, 1, 2, 0, 5));
        Due.is("promise 13: 1, 2 of an escape in an entry", z.told(z.put(1, 0)), "\" ");
    }

    private static void promise13Fault1ComesAsSoonAsTheNumber() {
        Watched z = new Watched(3);
        int place = z.put(1, 0);
        z.entry(0, z.put(9, 1, 18));
        Due.is("promise 13: within, of an entry without a place", z.tell(place), -11);
        z.entry(0, place);
        Due.is("promise 13: of itself", z.tell(place), -11);
        z.entry(0, z.putOpen(9, 9, 2));
        Due.is("promise 13: memory ends behind the number", z.tell(place), -11);
        z.keep(place + 2);
        z.entry(0, z.putOpen(9, 9, 9));
        Due.is("promise 13: memory ends before the number", z.tell(place), -12);
    }

    // ---- FAULT 2: "a WORD is not in MEMORY in full"

    private static void promise13Fault2AtTheEndOfMemory() {
        for (int version = 1; version <= 8; version++) {
            Watched z = new Watched(version);
            Due.is("promise 13: no byte", z.tell(0), -12);
            z.feed(0x80, 1);
            Due.is("promise 13: one byte", z.tell(0), -12);
            z.feed(0, 1);
            Due.is("promise 13: two bytes", z.tell(0), 3);
            Due.is("promise 13: from the second one", z.tell(1), -12);
            Due.is("promise 13: from behind them", z.tell(2), -12);
            Due.is("promise 13: from farther behind", z.tell(3), -12);
            z.poke(0, 0);
            Due.is("promise 13: two bytes, not the last word", z.tell(0), -12);
            z.feed(0x80, 1);
            Due.is("promise 13: three bytes", z.tell(0), -12);
            z.feed(0, 1);
            Due.is("promise 13: four bytes", z.tell(0), 6);
            z.keep(3);
            Due.is("promise 13: three again", z.tell(0), -12);
        }
    }

    private static void promise13Fault2InAnEntry() {
        Watched z = new Watched(3);
        int place = z.put(9, 1, 0);
        z.entry(0, 2);
        Due.is("promise 13: the entry's place is behind memory", z.tell(place), -12);
        z.feed(0x80, 1);
        Due.is("promise 13: one byte is there", z.tell(place), -12);
        z.feed(0, 1);
        Due.is("promise 13: two bytes are there", z.tell(place), 4);
        z.entry(0, 3);
        Due.is("promise 13: only the second one", z.tell(place), -12);
        z.entry(0, 4);
        Due.is("promise 13: none of them", z.tell(place), -12);
        z.entry(0, 3000);
        Due.is("promise 13: place 3000", z.tell(place), -12);
        z.entry(0, 2);
        z.poke(2, 0);
        Due.is("promise 13: the entry does not end", z.tell(place), -12);
    }

    // ---- FAULT 3: "the ENTRY has no place"

    private static void promise13Fault3OfEachEntry() {
        for (int version = 2; version <= 8; version++) {
            for (int e : new int[] {0, 1, 30, 31, 32, 33, 62, 63, 64, 65, 94, 95}) {
                if (version == 2 && e > 31) {
                    continue;
                }
                Watched z = new Watched(version);
                int place = z.put(1 + e / 32, e % 32);
                int nine = z.put(9);
                String name = "promise 13: version " + version + ", entry " + e;
                for (int other : new int[] {e - 1, e + 1, e - 32, e + 32}) {
                    z.entry(other, nine);
                }
                Due.is(name + " has no place", z.tell(place), -13);
                z.entry(e, nine);
                Due.is(name + " has one", z.tell(place), 1);
                z.entry(e, -1);
                Due.is(name + " has none again", z.tell(place), -13);
            }
        }
    }

    private static void promise13Place0IsAPlace() {
        Watched z = new Watched(3);
        z.put(9);
        z.entry(5, 0);
        Due.is("promise 13: place 0", z.told(z.put(1, 5)), "d");
    }

    // ---- FAULT 4: "a 1001st SIGN"

    /** ENTRY 0 tells 100 times "a", ENTRY 1 one "d", ENTRY 2 nothing. */
    private static Watched withHundred() {
        Watched z = new Watched(3);
        z.entry(0, z.put(repeated(100, 6)));
        z.entry(1, z.put(9));
        z.entry(2, z.put());
        return z;
    }

    /** The numbers of so many SIGNS. */
    private static int[] signs(int count) {
        return joined(repeated(count / 100, 1, 0), repeated(count % 100, 6));
    }

    private static void promise13Fault4At1001() {
        Watched z = withHundred();
        Due.is("promise 13: 999 signs", z.tell(z.put(signs(999))), 999);
        Due.is("promise 13: 1000 signs", z.tell(z.put(signs(1000))), 1000);
        Due.is("promise 13: the last of them", z.at(999), 97);
        Due.is("promise 13: 1001 signs", z.tell(z.put(signs(1001))), -14);
        Due.is("promise 13: 1002 signs", z.tell(z.put(signs(1002))), -14);
        Due.is("promise 13: 1100 signs", z.tell(z.put(signs(1100))), -14);
        Due.is("promise 13: the row is still the 1000", z.size(), 1000);
    }

    private static void promise13Fault4OfEachKind() {
        int[][] kinds = {{0}, {6}, {31}, {4, 9}, {5, 9}, {5, 6, 0, 0}, {1, 1}, {1, 0}};
        for (int[] kind : kinds) {
            Watched z = withHundred();
            String name = "promise 13: " + Arrays.toString(kind);
            Due.is(name + " behind 1000", z.tell(z.put(joined(signs(1000), kind))), -14);
            int due = kind[0] == 1 && kind[1] == 0 ? -14 : 1000;
            Due.is(name + " behind 999", z.tell(z.put(joined(signs(999), kind))), due);
            Due.is(name + " behind 900", z.tell(z.put(joined(signs(900), kind))), due == 1000 ? 901 : 1000);
        }
    }

    private static void promise13Fault4OfVersion1() {
        for (int last : new int[] {0, 1, 9}) {
            Watched z = new Watched(1);
            int place = z.put(joined(repeated(1000, 6), new int[] {2, 2}));
            Due.is("promise 13: 1000 of version 1", z.tell(place), 1000);
            z.keep(place);
            place = z.put(joined(repeated(1000, 6), new int[] {last, 2}));
            Due.is("promise 13: then " + last, z.tell(place), -14);
        }
    }

    private static void promise13NothingBehind1000IsNoFault() {
        Watched z = withHundred();
        int[][] nothings = {{}, {4, 5, 4, 5}, {1, 2}, {1, 2, 1, 2, 1, 2}};
        for (int[] nothing : nothings) {
            Due.is("promise 13: 1000, then " + Arrays.toString(nothing),
                z.tell(z.put(joined(signs(1000), nothing))), 1000);
        }
        // 20 numbers are the 1000 signs: one more number ends the seventh WORD, four the eighth.
        Due.is("promise 13: 1000, then a number of an entry lacks", z.tell(z.put(joined(signs(1000), new int[] {1}))), 1000);
        Due.is("promise 13: 1000, then an escape lacks both",
            z.tell(z.put(joined(signs(1000), new int[] {4, 4, 5, 6}))), 1000);
        Due.is("promise 13: 1000, then an escape lacks one",
            z.tell(z.put(joined(signs(1000), new int[] {4, 5, 6, 9}))), 1000);
    }

    private static void promise13Fault4InAnEntry() {
        Watched z = withHundred();
        z.entry(3, z.put(9, 9, 9));
        Due.is("promise 13: an entry's last is the 1000th", z.tell(z.put(joined(signs(997), new int[] {1, 3}))), 1000);
        Due.is("promise 13: an entry's last is the 1001st", z.tell(z.put(joined(signs(998), new int[] {1, 3}))), -14);
        Due.is("promise 13: an entry's first is the 1001st", z.tell(z.put(joined(signs(1000), new int[] {1, 3}))), -14);
    }

    // ---- "FAULTS, as they come"

    private static void promise13FirstFaultIsTold() {
        Watched z = withHundred();
        z.entry(4, z.put(9, 9, 1));
        z.entry(5, 3000);
        Due.is("promise 13: 1 at 998", z.tell(z.put(joined(signs(998), new int[] {1, 4}))), -11);
        Due.is("promise 13: 4 before 1", z.tell(z.put(joined(signs(999), new int[] {1, 4}))), -14);
        Due.is("promise 13: 3 at 1000", z.tell(z.put(joined(signs(1000), new int[] {1, 6}))), -13);
        Due.is("promise 13: 2 at 1000", z.tell(z.put(joined(signs(1000), new int[] {1, 5}))), -12);
        Due.is("promise 13: 4 before 3", z.tell(z.put(joined(signs(1001), new int[] {1, 6}))), -14);
        Due.is("promise 13: 3 before 4", z.tell(z.put(joined(new int[] {1, 6}, signs(1001)))), -13);
        Due.is("promise 13: 2 before 3", z.tell(z.put(1, 5, 1, 6)), -12);
        Due.is("promise 13: 3 before 2", z.tell(z.put(1, 6, 1, 5)), -13);
        Due.is("promise 13: 1 before 3", z.tell(z.put(1, 4, 1, 6)), -11);
        Due.is("promise 13: 3 before 1", z.tell(z.put(1, 6, 1, 4)), -13);
    }

    private static void promise13FaultsBeforeMemoryEnds() {
        Watched z = withHundred();
        int place = z.putOpen(joined(signs(1000), new int[] {9}));
        Due.is("promise 13: 4 before memory ends", z.tell(place), -14);
        z.keep(place);
        z.putOpen(joined(signs(1000), new int[] {5}));
        Due.is("promise 13: memory ends at 1000", z.tell(place), -12);
        z.feed(0xFF, 1);
        Due.is("promise 13: half a word behind 1000", z.tell(place), -12);
        z.keep(place);
        z.putOpen(9, 1, 6);
        Due.is("promise 13: 3 before memory ends", z.tell(place), -13);
        z.keep(place);
        z.putOpen(9, 9, 1);
        Due.is("promise 13: memory ends before the entry's number", z.tell(place), -12);
    }

    private static void promise13FaultsInAnEntryAsTheyCome() {
        Watched z = withHundred();
        int at997 = z.put(joined(signs(997), new int[] {1, 9}));
        int at998 = z.put(joined(signs(998), new int[] {1, 9}));
        z.entry(9, z.putOpen(9, 9, 9));
        Due.is("promise 13: an entry's memory ends at 1000", z.tell(at997), -12);
        Due.is("promise 13: 4 before an entry's memory ends", z.tell(at998), -14);
    }

    // ---- REFUSALS: "change nothing"; "-10 less a FAULT"

    private static void promise13AFaultKeepsTheRow() {
        Watched z = withHundred();
        z.entry(4, z.put(9, 1, 1));
        int[] places = {z.put(9, 9, 9, 1, 4), 3000, z.put(9, 9, 9, 1, 31), z.put(signs(1001))};
        z.setRow("kept");
        for (int fault = 1; fault <= 4; fault++) {
            Due.is("promise 13: fault " + fault, z.tell(places[fault - 1]), -10 - fault);
            Due.is("promise 13: the row behind fault " + fault, z.row(), "kept");
        }
        z.sign(-1);
        Due.is("promise 13: a fault with an empty row", z.tell(places[0]), -11);
        Due.is("promise 13: it stays empty", z.size(), 0);
        z.fillRow(1000);
        Due.is("promise 13: a fault with a full row", z.tell(places[0]), -11);
        Due.is("promise 13: it stays full", z.size(), 1000);
        Due.is("promise 13: with its signs", z.at(0), 97);
    }

    // ---- Promise 14: "The place behind the last WORD of the latest tell() (its own, not of ABBREVIATIONS)"

    private static void promise14Before() {
        Watched z = new Watched(3);
        Due.is("promise 14: new", z.behind(), 0);
        z.setRow("abc");
        z.make(0);
        z.entry(0, 0);
        z.numbers(1);
        z.make(1);
        z.word();
        z.part();
        Due.is("promise 14: before the first tell", z.behind(), 0);
        z.tell(-1);
        Due.is("promise 14: before, a refused one", z.behind(), 0);
        z.tell(0);
        Due.is("promise 14: behind the first", z.behind(), 2);
    }

    private static void promise14BehindOneTwoAndThreeWords() {
        Watched z = new Watched(3);
        z.feed(0, 1);
        for (int length = 1; length <= 10; length++) {
            int place = z.put(repeated(length, 9));
            z.tell(place);
            Due.is("promise 14: " + length + " numbers", z.behind(), place + (length + 2) / 3 * 2);
        }
        int last = z.put(9, 9, 9, 9, 9, 9);
        z.tell(last + 2);
        Due.is("promise 14: from its last word", z.behind(), last + 4);
    }

    private static void promise14NotOfAbbreviations() {
        Watched z = new Watched(3);
        int before = z.put(9, 9, 9, 9);
        int text = z.put(1, 0, 9, 9, 1, 1);
        int after = z.put(9, 9, 9, 9);
        z.entry(0, before);
        z.entry(1, after);
        Due.is("promise 14: told", z.tell(text), 10);
        Due.is("promise 14: the last number is an entry behind it", z.behind(), text + 4);
        z.entry(1, before);
        z.tell(text);
        Due.is("promise 14: the last number is an entry before it", z.behind(), text + 4);
    }

    private static void promise14BehindAFault() {
        Watched z = withHundred();
        z.entry(4, z.put(9, 1, 1));
        int good = z.put(9);
        int[] places = {z.put(9, 9, 9, 1, 4), 3000, z.put(9, 9, 9, 1, 31), z.put(signs(1001))};
        for (int fault = 1; fault <= 4; fault++) {
            z.tell(good);
            Due.is("promise 14: told", z.behind(), good + 2);
            z.tell(places[fault - 1]);
            Due.is("promise 14: behind fault " + fault, z.behind(), 0);
            z.tell(places[fault - 1]);
            Due.is("promise 14: behind fault " + fault + " again", z.behind(), 0);
        }
        z.tell(good);
        Due.is("promise 14: told again", z.behind(), good + 2);
    }

    private static void promise14BehindARefusedOne() {
        Watched z = new Watched(3);
        z.put(9);
        z.tell(0);
        for (int place : new int[] {-1, 3001, LEAST, MOST}) {
            z.tell(place);
            Due.is("promise 14: behind a refused tell(" + place + ")", z.behind(), 2);
        }
        z.tell(3000);
        Due.is("promise 14: 3000 is not refused, but a fault", z.behind(), 0);
        z.tell(-1);
        Due.is("promise 14: refused behind a fault", z.behind(), 0);
    }

    private static void promise14OtherCallsLeaveIt() {
        Watched z = new Watched(5);
        z.entry(0, z.put(9, 9, 9, 9));
        z.tell(0);
        z.setRow("ddddd");
        z.numbers(1);
        z.make(1);
        z.make(0);
        z.word();
        z.part();
        z.poke(0, 0);
        z.alphabet(0, 9, 500);
        z.entry(0, -1);
        z.keep(0);
        z.sign(-1);
        Due.is("promise 14: it stays", z.behind(), 4);
    }

    public static void main(String[] args) {
        promise13PlaceOutside();
        promise13LastPlacesOfFullMemory();
        promise13TheRowIsWhatIsTold();
        promise13LastWordsBit();
        promise13NumbersOfAWord();
        promise13OddPlacesAndMiddles();
        promise13Alphabet0AtFirst();
        promise13Alphabet0AtFirstBehindAFault();
        promise13ZeroIsASpaceInEachAlphabet();
        promise13OneByVersion();
        promise13TwoAndThreeByVersion();
        promise13FourAndFiveByVersion();
        promise13ShiftsWrapAround();
        promise13LocksWrapAround();
        promise13ShiftThen0To5OfVersion1();
        promise13ShiftThen0To5OfVersion2();
        promise13ShiftThen0To5OfOtherVersions();
        promise13ShiftAtTheEnd();
        promise13AllCodesOfTheEscape();
        promise13EscapeOfEachVersion();
        promise13EscapesNumbersMeanNothingElse();
        promise13EscapeLacksNumbers();
        promise13AbbreviationLacksItsNumber();
        promise13EntryLacksNumbers();
        promise13EachEntry();
        promise13NumbersOfEntriesMeanNothingElse();
        promise13AnEntryIsToldFromAlphabet0();
        promise13Fault1AtEachPlace();
        promise13NoFault1ForShifts();
        promise13Fault1ComesAsSoonAsTheNumber();
        promise13Fault2AtTheEndOfMemory();
        promise13Fault2InAnEntry();
        promise13Fault3OfEachEntry();
        promise13Place0IsAPlace();
        promise13Fault4At1001();
        promise13Fault4OfEachKind();
        promise13Fault4OfVersion1();
        promise13NothingBehind1000IsNoFault();
        promise13Fault4InAnEntry();
        promise13FirstFaultIsTold();
        promise13FaultsBeforeMemoryEnds();
        promise13FaultsInAnEntryAsTheyCome();
        promise13AFaultKeepsTheRow();
        promise14Before();
        promise14BehindOneTwoAndThreeWords();
        promise14NotOfAbbreviations();
        promise14BehindAFault();
        promise14BehindARefusedOne();
        promise14OtherCallsLeaveIt();
        Due.end();
    }
}
