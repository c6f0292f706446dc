import java.util.ArrayList;
import java.util.List;

/**
 * Promises 15 and 16, with what the document's TERMS say of MAKING and of BEST: each sentence that names
 * a boundary has a test of its own, at the boundary and at the values next to it.
 */
public final class EdgeMakingTest {
    private static final int LEAST = Integer.MIN_VALUE;
    private static final int MOST = Integer.MAX_VALUE;
    private static final String OLD_THIRD = "0123456789.,!?_#'\"/\\<-:()";
    private static final String THIRD = "\r0123456789.,!?_#'\"/\\-:()";

    private static String made(int version, String text) {
        Watched z = new Watched(version);
        z.setRow(text);
        return z.made(0);
    }

    private static String best(int version, String text, String... entries) {
        return Watched.withEntries(version, entries).best(text);
    }

    // ---- Promise 15, 16: "-2"

    private static void promise15HowOutside() {
        Watched z = new Watched(3);
        z.setRow("ab");
        Due.is("promise 15: how = -1", z.numbers(-1), -2);
        Due.is("promise 15: how = 0", z.numbers(0), 2);
        Due.is("promise 15: how = 1", z.numbers(1), 2);
        Due.is("promise 15: how = 2", z.numbers(2), -2);
        Due.is("promise 15: least how", z.numbers(LEAST), -2);
        Due.is("promise 15: most how", z.numbers(MOST), -2);
    }

    private static void promise16HowOutside() {
        Watched z = new Watched(3);
        z.setRow("ab");
        Due.is("promise 16: how = -1", z.make(-1), -2);
        Due.is("promise 16: how = 2", z.make(2), -2);
        Due.is("promise 16: least how", z.make(LEAST), -2);
        Due.is("promise 16: most how", z.make(MOST), -2);
        Due.is("promise 16: refused ones bring nothing", z.memory(), 0);
        Due.is("promise 16: how = 0", z.make(0), 0);
        Due.is("promise 16: how = 1", z.make(1), 2);
        Due.is("promise 16: two words are there", z.memory(), 4);
    }

    // ---- Promise 15: "How many numbers THE ROW needs, without 5s"

    private static void promise15EmptyToSeven() {
        for (int version = 1; version <= 8; version++) {
            Watched z = new Watched(version);
            for (int count = 0; count <= 7; count++) {
                Due.is("promise 15: as it is, of " + count, z.numbers(0), count);
                Due.is("promise 15: BEST, of " + count, z.numbers(1), count);
                z.sign(97 + count);
            }
        }
    }

    private static void promise15NumbersOfOneSign() {
        for (int version = 1; version <= 8; version++) {
            String[] signs = {"a", "z", " ", "A", "Z", "0", ")", "{", "\u0000", "\u03ff"};
            int[] needed = {1, 1, 1, 2, 2, 2, 2, 4, 4, 4};
            for (int k = 0; k < signs.length; k++) {
                Watched z = new Watched(version);
                z.setRow(signs[k]);
                Due.is("promise 15: numbers of " + signs[k], z.numbers(0), needed[k]);
                Due.is("promise 15: BEST of " + signs[k], z.numbers(1), needed[k]);
            }
        }
    }

    private static void promise15FullRow() {
        Watched z = new Watched(4);
        z.fillRow(999);
        Due.is("promise 15: 999 letters", z.numbers(0), 999);
        z.sign(97);
        Due.is("promise 15: 1000 letters", z.numbers(0), 1000);
        Due.is("promise 15: 1000 letters, BEST", z.numbers(1), 1000);
        z.setRow("\u00ff".repeat(1000));
        Due.is("promise 15: 1000 codes", z.numbers(0), 4000);
        Due.is("promise 15: 1000 codes, BEST", z.numbers(1), 4000);
        Due.is("promise 15: the row stays", z.size(), 1000);
        Due.is("promise 15: memory stays", z.memory(), 0);
    }

    // ---- MAKING: "of each SIGN"

    /** What the document says of one SIGN, with the ALPHABETS of a new object. */
    private static List<Integer> spelled(int version, int sign) {
        int toSecond = version <= 2 ? 2 : 4;
        String third = version == 1 ? OLD_THIRD : THIRD;
        if (sign == 32) {
            return List.of(0);
        }
        if (sign == 13 && version == 1) {
            return List.of(1);
        }
        if (sign >= 97 && sign <= 122) {
            return List.of(sign - 91);
        }
        if (sign >= 65 && sign <= 90) {
            return List.of(toSecond, sign - 59);
        }
        if (third.indexOf(sign) >= 0) {
            return List.of(toSecond + 1, third.indexOf(sign) + 7);
        }
        return List.of(toSecond + 1, 6, sign / 32, sign % 32);
    }

    private static void promise16EachSignOfEachVersion() {
        for (int version = 1; version <= 8; version++) {
            for (int from = 0; from < 1024; from += 64) {
                Watched z = new Watched(version);
                List<Integer> want = new ArrayList<>();
                for (int sign = from; sign < from + 64; sign++) {
                    z.sign(sign);
                    want.addAll(spelled(version, sign));
                }
                Due.is("promise 15: of signs from " + from, z.numbers(0), want.size());
                while (want.size() % 3 != 0) {
                    want.add(5);
                }
                Due.is("promise 16: version " + version + ", signs from " + from, z.made(0), Watched.shown(want));
            }
        }
    }

    private static void promise16EndsOfTheAlphabets() {
        Due.is("promise 16: 96", made(3, "`"), "5 6 3 0 5 5");
        Due.is("promise 16: 97", made(3, "a"), "6 5 5");
        Due.is("promise 16: 122", made(3, "z"), "31 5 5");
        Due.is("promise 16: 123", made(3, "{"), "5 6 3 27 5 5");
        Due.is("promise 16: 64", made(3, "@"), "5 6 2 0 5 5");
        Due.is("promise 16: 65", made(3, "A"), "4 6 5");
        Due.is("promise 16: 90", made(3, "Z"), "4 31 5");
        Due.is("promise 16: 91", made(3, "["), "5 6 2 27 5 5");
        Due.is("promise 16: 48", made(3, "0"), "5 8 5");
        Due.is("promise 16: 57", made(3, "9"), "5 17 5");
        Due.is("promise 16: 59", made(3, ";"), "5 6 1 27 5 5");
        Due.is("promise 16: 31", made(3, "\u001f"), "5 6 0 31 5 5");
        Due.is("promise 16: 32", made(3, " "), "0 5 5");
        Due.is("promise 16: 33", made(3, "!"), "5 20 5");
        Due.is("promise 16: 0", made(3, "\u0000"), "5 6 0 0 5 5");
        Due.is("promise 16: 1023", made(3, "\u03ff"), "5 6 31 31 5 5");
    }

    private static void promise16ThirteenByVersion() {
        Due.is("promise 16: 13 of version 1", made(1, "\r"), "1 5 5");
        Due.is("promise 16: 12 of version 1", made(1, "\f"), "3 6 0 12 5 5");
        Due.is("promise 16: 14 of version 1", made(1, "\u000e"), "3 6 0 14 5 5");
        Due.is("promise 16: 13 of version 2", made(2, "\r"), "3 7 5");
        for (int version = 3; version <= 8; version++) {
            Due.is("promise 16: 13 of version " + version, made(version, "\r"), "5 7 5");
        }
    }

    private static void promise16ShiftsByVersion() {
        for (int version = 1; version <= 8; version++) {
            String shift = version <= 2 ? "2 3" : "4 5";
            String number = version == 1 ? " 7 " : " 8 ";
            String want = shift.charAt(0) + " 6 " + shift.charAt(2) + number + shift.charAt(2) + " 6 4 0";
            Due.is("promise 16: shifts of version " + version, made(version, "A0\u0080"), want + " 5");
        }
    }

    private static void promise16LessThanSignByVersion() {
        Due.is("promise 16: 60 of version 1", made(1, "<"), "3 27 5");
        for (int version = 2; version <= 8; version++) {
            String shift = version == 2 ? "3" : "5";
            Due.is("promise 16: 60 of version " + version, made(version, "<"), shift + " 6 1 28 5 5");
        }
    }

    // ---- MAKING: "if it is a LETTER (of the lowest ALPHABET that has it, by the lowest number; not the ESCAPE)"

    private static void promise16LowestAlphabet() {
        Watched z = new Watched(5);
        z.setRow("\u01f4");
        Due.is("promise 16: no letter", z.made(0), "5 6 15 20 5 5");
        z.alphabet(2, 8, 500);
        Due.is("promise 16: of alphabet 2", z.made(0), "5 8 5");
        z.alphabet(1, 31, 500);
        Due.is("promise 16: of alphabets 1, 2", z.made(0), "4 31 5");
        z.alphabet(0, 31, 500);
        Due.is("promise 16: of alphabets 0, 1, 2", z.made(0), "31 5 5");
        z.alphabet(0, 31, 501);
        Due.is("promise 16: no more of 0", z.made(0), "4 31 5");
        z.alphabet(1, 31, 501);
        Due.is("promise 16: no more of 1", z.made(0), "5 8 5");
        z.alphabet(2, 8, 501);
        Due.is("promise 16: no letter any more", z.made(0), "5 6 15 20 5 5");
    }

    private static void promise16LowestNumber() {
        for (int alphabet = 0; alphabet <= 2; alphabet++) {
            Watched z = new Watched(8);
            String shift = alphabet == 0 ? "" : alphabet + 3 + " ";
            String rest = alphabet == 0 ? " 5 5" : " 5";
            z.setRow("\u01f4");
            for (int number = 31; number >= 8; number--) {
                z.alphabet(alphabet, number, 500);
                Due.is("promise 16: lowest is " + number, z.made(0), shift + number + rest);
            }
        }
    }

    private static void promise16NotTheEscape() {
        Watched z = new Watched(5);
        z.setRow("a");
        z.alphabet(0, 6, 500);
        Due.is("promise 16: a is no letter: by the escape", z.made(0), "5 6 3 1 5 5");
        z.setRow("\u0006");
        Due.is("promise 16: sign 6", z.made(0), "5 6 0 6 5 5");
        z.setRow("\u0000\u03ff");
        Due.is("promise 16: signs 0, 1023", z.made(0), "5 6 0 0 5 6 31 31 5");
    }

    private static void promise16SpaceAndThirteenAsLetters() {
        Watched z = new Watched(6);
        z.alphabet(0, 6, 32);
        z.alphabet(0, 7, 13);
        z.setRow(" \r");
        Due.is("promise 16: 32 stays 0, 13 is the letter", z.made(0), "0 7 5");
        Due.is("promise 15: two numbers", z.numbers(0), 2);
        Due.is("promise 13: both letters are told", z.told(z.put(6, 7)), " \r");
        z.alphabet(0, 7, 98);
        Due.is("promise 16: 13 is 7 of alphabet 2 again", z.made(0), "0 5 7");
    }

    // ---- MAKING: "Then 5s until there are three times something (three at least)"

    private static void promise16FivesBehind() {
        for (int version = 1; version <= 8; version++) {
            String[] numbers = {"", "6", "6 7", "6 7 8", "6 7 8 9", "6 7 8 9 10", "6 7 8 9 10 11", "6 7 8 9 10 11 12"};
            String[] fives = {"5 5 5", " 5 5", " 5", "", " 5 5", " 5", "", " 5 5"};
            for (int count = 0; count < numbers.length; count++) {
                String text = "abcdefg".substring(0, count);
                Due.is("promise 16: version " + version + ", " + count, made(version, text), numbers[count] + fives[count]);
                Due.is("promise 16: BEST of " + count, new Watched(version).best(text), numbers[count]);
            }
        }
    }

    private static void promise16BytesAndPlaces() {
        int[] bytes = {2, 2, 2, 2, 4, 4, 4, 6};
        for (int how = 0; how <= 1; how++) {
            Watched z = new Watched(3);
            int place = z.feed(1, 1);
            for (int count = 0; count < bytes.length; count++) {
                z.setRow("abcdefg".substring(0, count));
                Due.is("promise 16: place of " + count, z.make(how), place);
                Due.is("promise 16: bytes of " + count, z.memory(), place + bytes[count]);
                for (int p = place; p < place + bytes[count]; p += 2) {
                    boolean last = p == place + bytes[count] - 2;
                    Due.is("promise 16: the last word's bit", z.byteAt(p) / 128, last ? 1 : 0);
                }
                place += bytes[count];
            }
            Due.is("promise 16: what was there stays", z.byteAt(0), 1);
        }
    }

    private static void promise16TheRowStays() {
        for (int how = 0; how <= 1; how++) {
            Watched z = Watched.withEntries(3, "abc");
            z.setRow("abcabc");
            z.numbers(how);
            z.make(how);
            Due.is("promise 16: the row stays, " + how, z.row(), "abcabc");
            Due.is("promise 16: told again, " + how, z.told(2), "abcabc");
        }
    }

    // ---- Promise 16: "-4"

    private static void promise16RoomForOneWord() {
        for (int how = 0; how <= 1; how++) {
            for (String text : new String[] {"", "a", "abc"}) {
                Watched z = new Watched(3);
                z.setRow(text);
                z.fillMemory(3000);
                Due.is("promise 16: full", z.make(how), -4);
                Due.is("promise 16: full, how = 2", z.make(2), -2);
                z.keep(2999);
                Due.is("promise 16: one byte is left", z.make(how), -4);
                Due.is("promise 16: refused one brings nothing", z.memory(), 2999);
                z.keep(2998);
                Due.is("promise 16: two bytes are left", z.make(how), 2998);
                Due.is("promise 16: full then", z.memory(), 3000);
                z.keep(2997);
                Due.is("promise 16: three bytes are left", z.make(how), 2997);
                Due.is("promise 16: one is left then", z.memory(), 2999);
                Due.is("promise 16: the row stays", z.row(), text);
            }
        }
    }

    private static void promise16RoomForTwoWords() {
        for (int how = 0; how <= 1; how++) {
            Watched z = new Watched(3);
            z.setRow("abcd");
            z.fillMemory(2998);
            Due.is("promise 16: two bytes are left", z.make(how), -4);
            Due.is("promise 16: not even its first word comes", z.memory(), 2998);
            z.keep(2997);
            Due.is("promise 16: three bytes are left", z.make(how), -4);
            Due.is("promise 16: refused one brings nothing", z.memory(), 2997);
            z.keep(2996);
            Due.is("promise 16: four bytes are left", z.make(how), 2996);
            z.keep(2995);
            Due.is("promise 16: five bytes are left", z.make(how), 2995);
        }
    }

    private static void promise16RoomForTheLongestRow() {
        for (int how = 0; how <= 1; how++) {
            Watched z = new Watched(3);
            z.setRow("\u00ff".repeat(1000));
            z.fillMemory(333);
            Due.is("promise 16: 333 bytes before it", z.make(how), -4);
            Due.is("promise 16: refused one brings nothing", z.memory(), 333);
            z.keep(332);
            Due.is("promise 16: 332 bytes before it", z.make(how), 332);
            Due.is("promise 16: full then", z.memory(), 3000);
            Due.is("promise 16: its end", z.byteAt(2998) << 8 | z.byteAt(2999), 0x8000 | 31 << 10 | 5 << 5 | 5);
            z.sign(-1);
            Due.is("promise 13: told again", z.tell(332), 1000);
            Due.is("promise 13: its last sign", z.at(999), 255);
            z.keep(331);
            Due.is("promise 16: 331 bytes before it", z.make(how), 331);
            Due.is("promise 16: one byte is left then", z.memory(), 2999);
        }
    }

    private static void promise16RoomForBestAlone() {
        Watched z = Watched.withEntries(3, "abcdefg");
        z.setRow("abcdefg");
        z.fillMemory(2998);
        Due.is("promise 16: no room as it is", z.make(0), -4);
        Due.is("promise 16: room for BEST", z.make(1), 2998);
        Due.is("promise 16: told again", z.told(2998), "abcdefg");
    }

    // ---- BEST: "in place of some SIGNS that are just what an ENTRY tells (one SIGN at least"

    private static void promise16BestEntryOfNothing() {
        Watched z = new Watched(3);
        z.entry(0, z.put());
        z.entry(1, z.put(5, 6, 2));
        Due.is("promise 16: entries that tell nothing", z.best("ab"), "6 7");
        Due.is("promise 16: with an empty row", z.best(""), "");
    }

    private static void promise16BestEntryOfOneSign() {
        Due.is("promise 16: of one number: never", best(3, "aa", "a"), "6 6");
        Due.is("promise 16: of a space: never", best(3, "  ", " "), "0 0");
        Due.is("promise 16: of two numbers: as few, and less", best(3, "AA", "A"), "1 0 1 0");
        Due.is("promise 16: of two numbers in version 2", best(2, "A0", "A", "0"), "1 0 1 1");
        Due.is("promise 16: of four numbers: fewer", best(3, "@@", "@"), "1 0 1 0");
    }

    private static void promise16BestJustWhatAnEntryTells() {
        Due.is("promise 16: just it", best(3, "abcd", "abcd"), "1 0");
        Due.is("promise 16: one sign short at the end", best(3, "abc", "abcd"), "6 7 8");
        Due.is("promise 16: one sign short at the front", best(3, "bcd", "abcd"), "7 8 9");
        Due.is("promise 16: one more behind", best(3, "abcde", "abcd"), "1 0 10");
        Due.is("promise 16: one more before", best(3, "zabcd", "abcd"), "31 1 0");
        Due.is("promise 16: the last sign differs", best(3, "abce", "abcd"), "6 7 8 10");
        Due.is("promise 16: the first sign differs", best(3, "bbcd", "abcd"), "7 7 8 9");
        Due.is("promise 16: capitals differ", best(3, "Abcd", "abcd"), "4 6 7 8 9");
        Due.is("promise 16: twice", best(3, "abcdabcd", "abcd"), "1 0 1 0");
        Due.is("promise 16: overlapping itself", best(3, "abababa", "aba"), "1 0 7 1 0");
    }

    private static void promise16BestAsTheEntryTells() {
        Watched z = new Watched(3);
        z.entry(0, z.put(5, 6, 3, 1, 4, 5, 5, 6, 3, 2, 4, 8, 5, 5, 5));
        Due.is("promise 16: an entry of codes and idle shifts", z.best("abC"), "1 0");
        z.entry(0, z.put(6, 7, 8, 9, 5, 6));
        Due.is("promise 16: an entry that lacks numbers", z.best("abcd"), "1 0");
        z = new Watched(2);
        z.entry(3, z.put(4, 6, 7, 8));
        Due.is("promise 16: an entry with a lock", z.best("ABC"), "1 3");
    }

    // ---- BEST: "ENTRIES that can be told without a FAULT"

    private static void promise16BestEntryWithFault1() {
        for (int number = 1; number <= 3; number++) {
            Watched z = new Watched(3);
            z.entry(1, z.put(6, 6, 6));
            z.entry(33, 0);
            z.entry(65, 0);
            z.entry(0, z.put(7, 7, 7, 7, 7, number));
            Due.is("promise 16: " + number + " at the end of an entry", z.best("bbbbb"), "7 7 7 7 7");
            z.entry(0, z.put(7, 7, 7, 7, number, 1));
            Due.is("promise 16: " + number + " 1 in an entry", z.best("bbbbaaa"), "7 7 7 7 1 1");
            z.entry(0, z.put(7, 7, 7, 7, 7, 5));
            Due.is("promise 16: 5 at its end", z.best("bbbbb"), "1 0");
        }
        Watched z = new Watched(2);
        z.entry(0, z.put(7, 7, 7, 7, 7, 2));
        Due.is("promise 16: 2 at its end in version 2", z.best("bbbbb"), "1 0");
        z.entry(0, z.put(7, 7, 7, 7, 7, 1));
        Due.is("promise 16: 1 at its end in version 2", z.best("bbbbb"), "7 7 7 7 7");
    }

    private static void promise16BestEntryWithFault2() {
        Watched z = new Watched(3);
        z.entry(0, z.putOpen(6, 6, 6));
        z.setRow("aaa");
        Due.is("promise 15: the entry does not end", z.numbers(1), 3);
        z.feed(0x94A5, 2);
        Due.is("promise 15: it ends", z.numbers(1), 2);
        z.keep(3);
        Due.is("promise 15: half its end", z.numbers(1), 3);
        z.entry(0, 3000);
        Due.is("promise 15: place 3000", z.numbers(1), 3);
        z.entry(0, 3);
        Due.is("promise 15: place behind memory", z.numbers(1), 3);
    }

    private static void promise16BestEntryWithoutAPlace() {
        Watched z = Watched.withEntries(3, "aaa");
        z.setRow("aaa");
        Due.is("promise 15: it has a place", z.numbers(1), 2);
        z.entry(0, -1);
        Due.is("promise 15: it has none", z.numbers(1), 3);
        z.entry(0, 0);
        Due.is("promise 15: it has one again", z.numbers(1), 2);
    }

    private static void promise16BestEntryOfAllTheRow() {
        Watched z = new Watched(3);
        z.fillRow(1000);
        z.entry(0, z.make(0));
        Due.is("promise 15: an entry of 1000 signs", z.numbers(1), 2);
        z.keep(0);
        z.sign(-1);
        z.fillRow(999);
        z.make(0);
        z.sign(97);
        Due.is("promise 15: an entry of 999 signs", z.numbers(1), 3);
    }

    private static void promise16BestEntryWithFault4() {
        Watched z = new Watched(3);
        z.fillRow(1000);
        z.make(0);
        Due.is("promise 15: the last word", z.byteAt(666) << 8 | z.byteAt(667), 0x8000 | 6 << 10 | 5 << 5 | 5);
        z.entry(0, 0);
        z.poke(667, 6 << 5 | 5);
        z.poke(666, 0x80 | 6 << 2 | 6 >> 3);
        Due.is("promise 15: an entry of 1001 signs", z.numbers(1), 1000);
        Due.is("promise 13: it is a fault", z.tell(0), -14);
    }

    private static void promise16BestLooksAtMemoryAsItIs() {
        Watched z = Watched.withEntries(5, "aaa");
        z.setRow("aab");
        Due.is("promise 15: not what it tells", z.numbers(1), 3);
        z.poke(1, z.byteAt(1) + 1);
        Due.is("promise 15: what it tells now", z.numbers(1), 2);
        z.alphabet(0, 6, 500);
        Due.is("promise 15: letters are others", z.numbers(1), 9);
    }

    // ---- BEST: "of VERSION 2 those below 32, of VERSION 1 none"

    private static void promise16BestEntriesByVersion() {
        for (int version = 1; version <= 8; version++) {
            for (int e : new int[] {0, 1, 30, 31, 32, 33, 62, 63, 64, 65, 94, 95}) {
                Watched z = Watched.withEntries(version, "abcd");
                z.entry(e, z.entry(0, -1));
                boolean usable = version == 2 ? e < 32 : version > 2;
                String want = usable ? 1 + e / 32 + " " + e % 32 : "6 7 8 9";
                Due.is("promise 16: version " + version + ", entry " + e, z.best("abcd"), want);
            }
        }
    }

    // ---- BEST: "so that the numbers, without the 5s, are fewest"

    private static void promise16BestIsFewest() {
        Due.is("promise 16: three letters", best(3, "abc", "abc"), "1 0");
        Due.is("promise 16: not the first that fits", best(3, "abcdef", "abc", "bcdef"), "6 1 1");
        Due.is("promise 16: not the longest that fits", best(3, "abcdefgh", "abcd", "cdefg", "efgh"), "1 0 1 2");
        Due.is("promise 16: the longest", best(3, "abcdef", "abc", "abcdef"), "1 1");
        Due.is("promise 16: a chain", best(3, "aaaaaaa", "aaa", "aaaa"), "1 0 1 1");
        Due.is("promise 16: dear ones within", best(3, "a@b", "a@"), "1 0 7");
        Due.is("promise 16: dear ones alone", best(3, "a@b@", "a@b", "@"), "1 0 1 1");
        Due.is("promise 16: a code is four numbers, not fewer", best(3, "@bcdef", "@b", "bcdef"), "1 0 8 9 10 11");
        Due.is("promise 16: a code is four numbers, not more", best(3, "@bcdefg", "@b", "bcdefg"), "5 6 2 0 1 1");
        Due.is("promise 16: a shifted one is two numbers", best(3, "Abcd", "Ab", "bcd"), "1 0 8 9");
        Due.is("promise 16: a shifted one is not three", best(3, "Abcde", "Ab", "bcde"), "4 6 1 1");
        Due.is("promise 16: 5s do not count", best(3, "abcabcd", "abc", "bcd"), "1 0 1 0 9");
    }

    // ---- BEST: "of several such rows the one with the least number where they first differ"

    private static void promise16BestOfSeveral() {
        Due.is("promise 16: an entry is less than a letter", best(3, "ab", "ab"), "1 0");
        Due.is("promise 16: a space is less than an entry", best(3, " b", " b"), "0 7");
        Due.is("promise 16: an entry is less than shift 4", best(3, "A", "A"), "1 0");
        Due.is("promise 16: an entry is less than shift 2 of version 2", best(2, "A", "A"), "1 0");
        Due.is("promise 16: an entry is less than shift 3 of version 2", best(2, "0", "0"), "1 0");
        Due.is("promise 16: lower entries", best(3, "abc", null, null, "abc", "abc"), "1 2");
        Due.is("promise 16: the first entry, then a letter", best(3, "abc", "bc", "ab"), "1 1 8");
        Due.is("promise 16: a space, then an entry", best(3, " bc", " b", "bc"), "0 1 1");
        Due.is("promise 16: as few by either length", best(3, "aaaaa", "aaaa", "aaa"), "1 0 6");
        Due.is("promise 16: the shorter one is lower", best(3, "aaaaaaa", "aaa", "aaaa"), "1 0 1 1");
        Due.is("promise 16: the longer one is lower", best(3, "aaaaaaa", "aaaa", "aaa"), "1 0 1 1");
    }

    private static void promise16BestOfSeveralGroups() {
        Watched z = Watched.withEntries(3, "abc");
        z.entry(32, 0);
        z.entry(64, 0);
        Due.is("promise 16: 1 before 2 and 3", z.best("abc"), "1 0");
        z.entry(0, -1);
        Due.is("promise 16: 2 before 3", z.best("abc"), "2 0");
        z.entry(32, -1);
        Due.is("promise 16: 3", z.best("abc"), "3 0");
        z.entry(31, 0);
        Due.is("promise 16: 1 31 before 3 0", z.best("abc"), "1 31");
        z.entry(31, -1);
        z.entry(63, 0);
        Due.is("promise 16: 2 31 before 3 0", z.best("abc"), "2 31");
        z.entry(32, 0);
        Due.is("promise 16: 2 0 before 2 31", z.best("abc"), "2 0");
    }

    private static void promise15And16BestChangesNothing() {
        Watched z = Watched.withEntries(3, "abc");
        z.tell(0);
        z.setRow("abcabc");
        z.part();
        z.numbers(1);
        Due.is("promise 15: behind stays", z.behind(), 2);
        Due.is("promise 15: the row stays", z.row(), "abcabc");
        Due.is("promise 15: memory stays", z.memory(), 2);
        Due.is("promise 15: tokens stay", z.token(0, 1), 6);
        z.make(1);
        Due.is("promise 16: behind stays", z.behind(), 2);
        Due.is("promise 16: the row stays", z.row(), "abcabc");
        Due.is("promise 16: no word comes", z.words(), 0);
        Due.is("promise 16: the entry stays", z.entry(0, 0), 0);
    }

    public static void main(String[] args) {
        promise15HowOutside();
        promise16HowOutside();
        promise15EmptyToSeven();
        promise15NumbersOfOneSign();
        promise15FullRow();
        promise16EachSignOfEachVersion();
        promise16EndsOfTheAlphabets();
        promise16ThirteenByVersion();
        promise16ShiftsByVersion();
        promise16LessThanSignByVersion();
        promise16LowestAlphabet();
        promise16LowestNumber();
        promise16NotTheEscape();
        promise16SpaceAndThirteenAsLetters();
        promise16FivesBehind();
        promise16BytesAndPlaces();
        promise16TheRowStays();
        promise16RoomForOneWord();
        promise16RoomForTwoWords();
        promise16RoomForTheLongestRow();
        promise16RoomForBestAlone();
        promise16BestEntryOfNothing();
        promise16BestEntryOfOneSign();
        promise16BestJustWhatAnEntryTells();
        promise16BestAsTheEntryTells();
        promise16BestEntryWithFault1();
        promise16BestEntryWithFault2();
        promise16BestEntryWithoutAPlace();
        promise16BestEntryOfAllTheRow();
        promise16BestEntryWithFault4();
        promise16BestLooksAtMemoryAsItIs();
        promise16BestEntriesByVersion();
        promise16BestIsFewest();
        promise16BestOfSeveral();
        promise16BestOfSeveralGroups();
        promise15And16BestChangesNothing();
        Due.end();
    }
}
