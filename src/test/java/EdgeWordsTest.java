/**
 * Promises 17 to 22, with what the document's TERMS say of DICTIONARY WORDS and of PARTING THE ROW: each
 * sentence that names a boundary has a test of its own, at the boundary and at the values next to it.
 */
public final class EdgeWordsTest {
    private static final int LEAST = Integer.MIN_VALUE;
    private static final int MOST = Integer.MAX_VALUE;

    private static int wordOf(Watched z, String text) {
        z.setRow(text);
        return z.word();
    }

    /** All bytes of a WORD, and that there are no more. */
    private static String bytesOf(Watched z, int k) {
        StringBuilder s = new StringBuilder();
        int i = 0;
        for (int b = z.wordByte(k, 0); b >= 0; b = z.wordByte(k, i)) {
            s.append(String.format("%02X", b));
            i++;
        }
        return s.toString();
    }

    /** The bytes that these numbers are as a WORD. */
    private static String bytes(int... numbers) {
        StringBuilder s = new StringBuilder();
        for (int k = 0; k < numbers.length; k += 3) {
            int two = numbers[k] << 10 | numbers[k + 1] << 5 | numbers[k + 2] | (k + 3 == numbers.length ? 32768 : 0);
            s.append(String.format("%04X", two));
        }
        return s.toString();
    }

    /** Each TOKEN of a text as first place, how many SIGNS, number of its WORD. */
    private static String tokens(Watched z, String text) {
        z.setRow(text);
        int count = z.part();
        StringBuilder s = new StringBuilder();
        for (int k = 0; k < count; k++) {
            s.append(k == 0 ? "" : " ").append(z.token(k, 0)).append('+').append(z.token(k, 1));
            s.append('=').append(z.token(k, 2));
        }
        Due.is("promise 22: none behind the last", z.token(count, 0), -1);
        return s.toString();
    }

    /** A DICTIONARY of so many WORDS: a, b, .. z, ba, bb, .. */
    private static Watched withWords(int version, int count) {
        Watched z = new Watched(version);
        for (int k = 0; k < count; k++) {
            Due.is("promise 17: word " + k, wordOf(z, numbered(k)), k);
        }
        return z;
    }

    private static String numbered(int k) {
        String last = "" + (char) ('a' + k % 26);
        return k < 26 ? last : "b" + last;
    }

    // ---- Promise 17: "-4 there are 40"

    private static void promise17FortyWords() {
        for (int version = 1; version <= 8; version++) {
            Watched z = withWords(version, 39);
            Due.is("promise 19: 39 words", z.words(), 39);
            Due.is("promise 17: the 40th", wordOf(z, "x y"), 39);
            Due.is("promise 19: 40 words", z.words(), 40);
            Due.is("promise 17: a 41st", wordOf(z, "y x"), -4);
            Due.is("promise 17: once more", z.word(), -4);
            Due.is("promise 17: of an empty row", wordOf(z, ""), -4);
            Due.is("promise 19: still 40 words", z.words(), 40);
            Due.is("promise 18: no word 40", z.wordByte(40, 0), -1);
            Due.is("promise 18: word 39 is what it was", z.wordByte(39, 0), 29 << 2);
            Due.is("promise 17: refused, the row stays", z.size(), 0);
        }
    }

    private static void promise17ThatOfBeforeWhenFull() {
        Watched z = withWords(3, 40);
        Due.is("promise 17: the first of 40", wordOf(z, "a"), 0);
        Due.is("promise 17: the last of 40", wordOf(z, numbered(39)), 39);
        Due.is("promise 17: a new one", wordOf(z, "zz"), -4);
        Due.is("promise 19: 40", z.words(), 40);
    }

    // ---- Promise 17: "its number (that of before, if it had it)"; Terms: "Equal ones are one WORD"

    private static void promise17ThatOfBefore() {
        for (int version = 1; version <= 8; version++) {
            Watched z = new Watched(version);
            Due.is("promise 17: first", wordOf(z, "one"), 0);
            Due.is("promise 17: again", z.word(), 0);
            Due.is("promise 17: second", wordOf(z, "two"), 1);
            Due.is("promise 17: first again", wordOf(z, "one"), 0);
            Due.is("promise 17: second again", wordOf(z, "two"), 1);
            Due.is("promise 19: two words", z.words(), 2);
            Due.is("promise 17: capitals are another", wordOf(z, "One"), 2);
            Due.is("promise 17: the row stays", z.row(), "One");
        }
    }

    // ---- Terms: "of the numbers those that come first, 6 (VERSIONS 1 to 3) or 9, with 5s if there are fewer"

    private static void promise17CutBehind6Or9() {
        for (int version = 1; version <= 8; version++) {
            int length = version <= 3 ? 6 : 9;
            Watched z = new Watched(version);
            String text = "abcdefghijk";
            for (int count = 0; count <= length; count++) {
                Due.is("promise 17: " + count + " letters", wordOf(z, text.substring(0, count)), count);
            }
            for (int count = length + 1; count <= 11; count++) {
                Due.is("promise 17: " + count + " letters", wordOf(z, text.substring(0, count)), length);
            }
            Due.is("promise 17: the last that counts differs", wordOf(z, text.substring(0, length - 1) + "z"), length + 1);
            Due.is("promise 17: the next one does not count", wordOf(z, text.substring(0, length) + "z"), length);
        }
    }

    private static void promise18BytesOfShortWords() {
        Watched z = new Watched(3);
        Due.is("promise 17: empty", wordOf(z, ""), 0);
        Due.is("promise 18: of an empty row", bytesOf(z, 0), bytes(5, 5, 5, 5, 5, 5));
        wordOf(z, "abcde");
        Due.is("promise 18: of five letters", bytesOf(z, 1), bytes(6, 7, 8, 9, 10, 5));
        wordOf(z, "abcdef");
        Due.is("promise 18: of six letters", bytesOf(z, 2), bytes(6, 7, 8, 9, 10, 11));
        wordOf(z, "bcdefgh");
        Due.is("promise 18: of seven letters", bytesOf(z, 3), bytes(7, 8, 9, 10, 11, 12));
        z = new Watched(4);
        Due.is("promise 17: empty", wordOf(z, ""), 0);
        Due.is("promise 18: of an empty row", bytesOf(z, 0), bytes(5, 5, 5, 5, 5, 5, 5, 5, 5));
        wordOf(z, "abcdefgh");
        Due.is("promise 18: of eight letters", bytesOf(z, 1), bytes(6, 7, 8, 9, 10, 11, 12, 13, 5));
        wordOf(z, "abcdefghi");
        Due.is("promise 18: of nine letters", bytesOf(z, 2), bytes(6, 7, 8, 9, 10, 11, 12, 13, 14));
        wordOf(z, "bcdefghijk");
        Due.is("promise 18: of ten letters", bytesOf(z, 3), bytes(7, 8, 9, 10, 11, 12, 13, 14, 15));
    }

    private static void promise17NumbersCountNotSigns() {
        Watched z = new Watched(3);
        wordOf(z, "ABCD");
        Due.is("promise 18: three capitals are six numbers", bytesOf(z, 0), bytes(4, 6, 4, 7, 4, 8));
        Due.is("promise 17: the fourth does not count", wordOf(z, "ABC"), 0);
        Due.is("promise 17: the third does", wordOf(z, "ABD"), 1);
        wordOf(z, "aBCD");
        Due.is("promise 18: cut behind a shift", bytesOf(z, 2), bytes(6, 4, 7, 4, 8, 4));
        Due.is("promise 17: the shifted one does not count", wordOf(z, "aBCZ"), 2);
        Due.is("promise 17: its shift does", wordOf(z, "aBC0"), 3);
    }

    private static void promise17CutWithinACode() {
        String[] texts = {"a@b", "ab@", "abc@", "abcd@", "abcde@", "abcdef@"};
        int[][] want = {{6, 5, 6, 2, 0, 7}, {6, 7, 5, 6, 2, 0}, {6, 7, 8, 5, 6, 2}, {6, 7, 8, 9, 5, 6},
            {6, 7, 8, 9, 10, 5}, {6, 7, 8, 9, 10, 11}};
        for (int k = 0; k < texts.length; k++) {
            Watched z = new Watched(3);
            wordOf(z, texts[k]);
            Due.is("promise 18: " + texts[k], bytesOf(z, 0), bytes(want[k]));
        }
        Watched z = new Watched(4);
        wordOf(z, "abcdefgh@");
        Due.is("promise 18: cut behind a code's shift", bytesOf(z, 0), bytes(6, 7, 8, 9, 10, 11, 12, 13, 5));
        Due.is("promise 17: equal to that with a 5", wordOf(z, "abcdefgh"), 0);
        wordOf(z, "abcdef@");
        Due.is("promise 18: cut before its last", bytesOf(z, 1), bytes(6, 7, 8, 9, 10, 11, 5, 6, 2));
        Due.is("promise 17: another shift counts", wordOf(z, "abcdefG"), 2);
        Due.is("promise 17: equal up to the cut", wordOf(z, "abcdef["), 1);
        Due.is("promise 19: words", z.words(), 3);
    }

    private static void promise17BytesByVersion() {
        for (int version = 1; version <= 8; version++) {
            Watched z = new Watched(version);
            wordOf(z, "a0");
            String want = version == 1 ? bytes(6, 3, 7, 5, 5, 5) : version == 2 ? bytes(6, 3, 8, 5, 5, 5)
                : version == 3 ? bytes(6, 5, 8, 5, 5, 5) : bytes(6, 5, 8, 5, 5, 5, 5, 5, 5);
            Due.is("promise 18: version " + version, bytesOf(z, 0), want);
        }
    }

    // ---- Terms: "(without ABBREVIATIONS)"

    private static void promise17WithoutAbbreviations() {
        Watched z = Watched.withEntries(3, "abcdef");
        wordOf(z, "abcdef");
        Due.is("promise 18: without abbreviations", bytesOf(z, 0), bytes(6, 7, 8, 9, 10, 11));
        tokens(z, "abcdef");
        Due.is("promise 22: found without them", z.token(0, 2), 0);
    }

    private static void promise17WordsStayWhenLettersChange() {
        Watched z = new Watched(5);
        wordOf(z, "ab");
        z.alphabet(0, 6, 'b');
        Due.is("promise 18: its bytes stay", bytesOf(z, 0), bytes(6, 7, 5, 5, 5, 5, 5, 5, 5));
        Due.is("promise 17: the same signs are another word", wordOf(z, "ab"), 1);
        Due.is("promise 18: the other's bytes", bytesOf(z, 1), bytes(5, 6, 3, 1, 6, 5, 5, 5, 5));
        z.alphabet(0, 7, 'c');
        Due.is("promise 17: other signs are the first word", wordOf(z, "bc"), 0);
    }

    // ---- Promise 18: "Byte i of WORD k. -1." Terms: "4 or 6 bytes"

    private static void promise18NoSuchWord() {
        Watched z = new Watched(3);
        Due.is("promise 18: no words", z.wordByte(0, 0), -1);
        wordOf(z, "a");
        wordOf(z, "b");
        Due.is("promise 18: word -1", z.wordByte(-1, 0), -1);
        Due.is("promise 18: word 0", z.wordByte(0, 0), 6 << 2);
        Due.is("promise 18: word 1", z.wordByte(1, 0), 7 << 2);
        Due.is("promise 18: word 2", z.wordByte(2, 0), -1);
        Due.is("promise 18: word 39", z.wordByte(39, 0), -1);
        Due.is("promise 18: word 40", z.wordByte(40, 0), -1);
        Due.is("promise 18: least word", z.wordByte(LEAST, 0), -1);
        Due.is("promise 18: most word", z.wordByte(MOST, 0), -1);
    }

    private static void promise18NoSuchByte() {
        for (int version = 1; version <= 8; version++) {
            int bytes = version <= 3 ? 4 : 6;
            Watched z = new Watched(version);
            wordOf(z, "");
            Due.is("promise 18: byte -1", z.wordByte(0, -1), -1);
            for (int i = 0; i < bytes; i++) {
                int want = i % 2 == 1 ? 0xA5 : i == bytes - 2 ? 0x94 : 0x14;
                Due.is("promise 18: version " + version + ", byte " + i, z.wordByte(0, i), want);
            }
            Due.is("promise 18: version " + version + ", byte " + bytes, z.wordByte(0, bytes), -1);
            Due.is("promise 18: version " + version + ", byte " + (bytes + 1), z.wordByte(0, bytes + 1), -1);
            Due.is("promise 18: least byte", z.wordByte(0, LEAST), -1);
            Due.is("promise 18: most byte", z.wordByte(0, MOST), -1);
        }
    }

    private static void promise18EachOf40Words() {
        Watched z = withWords(8, 40);
        for (int k = 0; k < 40; k++) {
            int[] numbers = {6 + k % 26, 5, 5, 5, 5, 5, 5, 5, 5};
            if (k >= 26) {
                numbers = new int[] {7, 6 + k % 26, 5, 5, 5, 5, 5, 5, 5};
            }
            Due.is("promise 18: word " + k, bytesOf(z, k), bytes(numbers));
        }
    }

    // ---- Promise 19: "How many WORDS there are."

    private static void promise19HowMany() {
        Watched z = new Watched(6);
        Due.is("promise 19: none", z.words(), 0);
        for (int k = 0; k < 42; k++) {
            wordOf(z, numbered(k));
            Due.is("promise 19: behind word " + k, z.words(), Math.min(40, k + 1));
            z.word();
            Due.is("promise 19: an equal one makes no more", z.words(), Math.min(40, k + 1));
        }
    }

    // ---- Promise 20: "whether it was: 1 or 0. -2 it is not 0 .. 1023, or it is 32"

    private static void promise20SignOutside() {
        for (boolean is : new boolean[] {true, false}) {
            Watched z = new Watched(3);
            Due.is("promise 20: -1", z.separator(-1, is), -2);
            Due.is("promise 20: -2", z.separator(-2, is), -2);
            Due.is("promise 20: 1024", z.separator(1024, is), -2);
            Due.is("promise 20: 1025", z.separator(1025, is), -2);
            Due.is("promise 20: least", z.separator(LEAST, is), -2);
            Due.is("promise 20: most", z.separator(MOST, is), -2);
            Due.is("promise 20: 32", z.separator(32, is), -2);
        }
    }

    private static void promise20EachEnd() {
        for (int c : new int[] {0, 1, 31, 33, 1022, 1023}) {
            Watched z = new Watched(3);
            Due.is("promise 20: was not", z.separator(c, false), 0);
            Due.is("promise 20: was still not", z.separator(c, true), 0);
            Due.is("promise 20: was", z.separator(c, true), 1);
            Due.is("promise 20: was still", z.separator(c, false), 1);
            Due.is("promise 20: was no more", z.separator(c, true), 0);
            z.sign('a');
            z.sign(c);
            z.sign('a');
            Due.is("promise 21: parted by " + c, z.part(), 3);
            z.separator(c, false);
            Due.is("promise 21: no more parted by " + c, z.part(), 1);
        }
    }

    private static void promise20NeverASpace() {
        Watched z = new Watched(3);
        z.separator(32, true);
        Due.is("promise 20: a space is no token", tokens(z, "a a"), "0+1=-1 2+1=-1");
        Due.is("promise 20: 31 and 33 are none by that", tokens(z, "a\u001f!a"), "0+4=-1");
        z.separator(31, true);
        z.separator(33, true);
        Due.is("promise 20: 31 and 33 are", tokens(z, "a\u001f !a"), "0+1=-1 1+1=-1 3+1=-1 4+1=-1");
    }

    private static void promise20EachIsItsOwn() {
        for (int from = 0; from < 1024; from += 128) {
            Watched z = new Watched(3);
            for (int c = from; c < from + 128; c += 2) {
                z.separator(c, true);
            }
            for (int c = from; c < from + 128; c++) {
                Due.is("promise 20: was " + c, z.separator(c, false), c == 32 ? -2 : 1 - c % 2);
            }
        }
    }

    // ---- Promise 21: "PARTING THE ROW: how many TOKENS."

    private static void promise21NoTokens() {
        Watched z = new Watched(3);
        Due.is("promise 21: empty", z.part(), 0);
        Due.is("promise 21: one space", tokens(z, " "), "");
        Due.is("promise 21: spaces", tokens(z, "     "), "");
        z.setRow(" ".repeat(1000));
        Due.is("promise 21: 1000 spaces", z.part(), 0);
        Due.is("promise 22: none", z.token(0, 0), -1);
    }

    private static void promise21AsLongAsCanBe() {
        Watched z = new Watched(3);
        Due.is("promise 21: one sign", tokens(z, "a"), "0+1=-1");
        Due.is("promise 21: all of the row", tokens(z, "abc"), "0+3=-1");
        Due.is("promise 21: a space before", tokens(z, " abc"), "1+3=-1");
        Due.is("promise 21: a space behind", tokens(z, "abc "), "0+3=-1");
        Due.is("promise 21: a space within", tokens(z, "ab c"), "0+2=-1 3+1=-1");
        Due.is("promise 21: spaces all over", tokens(z, "  ab  c  "), "2+2=-1 6+1=-1");
        Due.is("promise 21: all but 32", tokens(z, "\u0000\u001f!\r\u03ff"), "0+5=-1");
    }

    private static void promise21EachSeparatorAlone() {
        Watched z = new Watched(3);
        z.separator(',', true);
        z.separator('.', true);
        Due.is("promise 21: one", tokens(z, ","), "0+1=-1");
        Due.is("promise 21: two", tokens(z, ",,"), "0+1=-1 1+1=-1");
        Due.is("promise 21: two others", tokens(z, ",."), "0+1=-1 1+1=-1");
        Due.is("promise 21: at the front", tokens(z, ",ab"), "0+1=-1 1+2=-1");
        Due.is("promise 21: at the end", tokens(z, "ab,"), "0+2=-1 2+1=-1");
        Due.is("promise 21: within", tokens(z, "ab,c"), "0+2=-1 2+1=-1 3+1=-1");
        Due.is("promise 21: beside spaces", tokens(z, "ab , c"), "0+2=-1 3+1=-1 5+1=-1");
        Due.is("promise 21: between spaces alone", tokens(z, " . "), "1+1=-1");
    }

    private static void promise21MostTokens() {
        Watched z = new Watched(3);
        z.separator('a', true);
        z.fillRow(999);
        Due.is("promise 21: 999 separators", z.part(), 999);
        Due.is("promise 22: no token 999", z.token(999, 0), -1);
        z.sign('a');
        Due.is("promise 21: 1000 separators", z.part(), 1000);
        Due.is("promise 22: token 999", z.token(999, 0), 999);
        Due.is("promise 22: its length", z.token(999, 1), 1);
        Due.is("promise 22: its word", z.token(999, 2), -1);
        Due.is("promise 22: no token 1000", z.token(1000, 0), -1);
        z.separator('a', false);
        Due.is("promise 21: one long token", z.part(), 1);
        Due.is("promise 22: its length", z.token(0, 1), 1000);
        Due.is("promise 22: no token 1", z.token(1, 0), -1);
        z.setRow("a ".repeat(500));
        Due.is("promise 21: 500 tokens", z.part(), 500);
        Due.is("promise 22: the last", z.token(499, 0), 998);
    }

    private static void promise21ChangesNothingElse() {
        Watched z = new Watched(3);
        z.separator(',', true);
        wordOf(z, "go");
        z.setRow("Go, West");
        z.part();
        Due.is("promise 21: the row stays", z.row(), "Go, West");
        Due.is("promise 21: no word comes", z.words(), 1);
        Due.is("promise 21: memory stays", z.memory(), 0);
        Due.is("promise 21: behind stays", z.behind(), 0);
        Due.is("promise 21: the separator stays", z.separator(',', true), 1);
    }

    // ---- Terms: "Its WORD is that .. of its SIGNS, A .. Z (65 to 90) as a .. z; none, if there is no such"

    private static void promise22EndsOfTheCapitals() {
        Watched z = new Watched(4);
        String small = "`az{";
        for (int k = 0; k < 4; k++) {
            Due.is("promise 17: word " + k, wordOf(z, small.substring(k, k + 1)), k);
        }
        Due.is("promise 22: 65 is 97", tokens(z, "A"), "0+1=1");
        Due.is("promise 22: 90 is 122", tokens(z, "Z"), "0+1=2");
        Due.is("promise 22: 64 is not 96", tokens(z, "@"), "0+1=-1");
        Due.is("promise 22: 91 is not 123", tokens(z, "["), "0+1=-1");
        Due.is("promise 22: 97 is itself", tokens(z, "a"), "0+1=1");
        Due.is("promise 22: 122 is itself", tokens(z, "z"), "0+1=2");
        Due.is("promise 22: 96 is itself", tokens(z, "`"), "0+1=0");
        Due.is("promise 22: 123 is itself", tokens(z, "{"), "0+1=3");
        Due.is("promise 22: 321 is not 65", tokens(z, "\u0141"), "0+1=-1");
    }

    private static void promise22AllCapitals() {
        Watched z = new Watched(3);
        for (char c = 'a'; c <= 'z'; c++) {
            wordOf(z, "" + c);
        }
        for (char c = 'A'; c <= 'Z'; c++) {
            Due.is("promise 22: " + c, tokens(z, "" + c), "0+1=" + (c - 'A'));
        }
    }

    private static void promise22WordsWithCapitalsAreNotFound() {
        Watched z = new Watched(3);
        Due.is("promise 17: a word of capitals", wordOf(z, "Go"), 0);
        Due.is("promise 22: not found", tokens(z, "Go"), "0+2=-1");
        Due.is("promise 22: nor this", tokens(z, "go"), "0+2=-1");
        Due.is("promise 17: a word of small ones", wordOf(z, "go"), 1);
        Due.is("promise 22: found", tokens(z, "Go gO GO go"), "0+2=1 3+2=1 6+2=1 9+2=1");
    }

    private static void promise22CutAndPadded() {
        for (int version = 3; version <= 4; version++) {
            int length = version == 3 ? 6 : 9;
            String text = "abcdefghijkl";
            Watched z = new Watched(version);
            wordOf(z, text.substring(0, length));
            String all = text.substring(0, length);
            String shorter = text.substring(0, length - 1);
            Due.is("promise 22: one longer", tokens(z, all + "l"), "0+" + (length + 1) + "=0");
            Due.is("promise 22: just as long", tokens(z, all), "0+" + length + "=0");
            Due.is("promise 22: one shorter", tokens(z, shorter), "0+" + (length - 1) + "=-1");
            Due.is("promise 22: capitals cost no shift", tokens(z, all.toUpperCase()), "0+" + length + "=0");
            Due.is("promise 22: the last that counts differs", tokens(z, shorter + "z"), "0+" + length + "=-1");
        }
    }

    private static void promise22WordsOfTheSignsOfTheTokenAlone() {
        Watched z = new Watched(3);
        z.separator(',', true);
        Due.is("promise 17: a", wordOf(z, "a"), 0);
        Due.is("promise 17: a separator", wordOf(z, ","), 1);
        Due.is("promise 17: both", wordOf(z, "a,"), 2);
        Due.is("promise 17: with a space", wordOf(z, "a a"), 3);
        Due.is("promise 22: each is its own", tokens(z, "a,a a"), "0+1=0 1+1=1 2+1=0 4+1=0");
    }

    private static void promise22ACapitalAsSeparator() {
        Watched z = new Watched(3);
        wordOf(z, "x");
        z.separator('X', true);
        Due.is("promise 21: X parts, x does not", tokens(z, "aXaxa"), "0+1=-1 1+1=0 2+3=-1");
    }

    // ---- Promise 22: "-1 there is none such, -2"

    private static void promise22NoSuchToken() {
        Watched z = new Watched(3);
        Due.is("promise 22: before any parting", z.token(0, 0), -1);
        Due.is("promise 22: before any, what = 3", z.token(0, 3), -1);
        tokens(z, "ab c");
        Due.is("promise 22: token -1", z.token(-1, 0), -1);
        Due.is("promise 22: token 0", z.token(0, 0), 0);
        Due.is("promise 22: token 1", z.token(1, 0), 3);
        Due.is("promise 22: token 2", z.token(2, 0), -1);
        Due.is("promise 22: least token", z.token(LEAST, 0), -1);
        Due.is("promise 22: most token", z.token(MOST, 0), -1);
    }

    private static void promise22WhatOutside() {
        Watched z = new Watched(3);
        wordOf(z, "c");
        tokens(z, "ab c");
        Due.is("promise 22: what = -1", z.token(1, -1), -2);
        Due.is("promise 22: what = 0", z.token(1, 0), 3);
        Due.is("promise 22: what = 1", z.token(1, 1), 1);
        Due.is("promise 22: what = 2", z.token(1, 2), 0);
        Due.is("promise 22: what = 3", z.token(1, 3), -2);
        Due.is("promise 22: least what", z.token(1, LEAST), -2);
        Due.is("promise 22: most what", z.token(1, MOST), -2);
        Due.is("promise 22: none such comes first", z.token(2, 3), -1);
        Due.is("promise 22: none such comes first, below", z.token(-1, -1), -1);
    }

    // ---- Promise 22: "(as the DICTIONARY was then; -1: none)"

    private static void promise22AsTheDictionaryWasThen() {
        Watched z = new Watched(3);
        tokens(z, "go");
        z.word();
        Due.is("promise 22: it had no such word then", z.token(0, 2), -1);
        z.part();
        Due.is("promise 22: it has it now", z.token(0, 2), 0);
        wordOf(z, "west");
        Due.is("promise 22: another word changes nothing", z.token(0, 2), 0);
    }

    // ---- Promise 21: "(They stay till the next one.)"

    private static void promise21TheyStay() {
        Watched z = new Watched(5);
        z.separator(',', true);
        wordOf(z, "go");
        z.put(9);
        Due.is("promise 21: three", tokens(z, "go,x"), "0+2=0 2+1=-1 3+1=-1");
        z.sign('y');
        z.type(0x20, 1);
        z.tell(0);
        z.sign(-1);
        z.separator(',', false);
        z.alphabet(0, 12, 500);
        z.word();
        z.keep(0);
        z.make(1);
        Due.is("promise 22: token 0", z.token(0, 1), 2);
        Due.is("promise 22: its word", z.token(0, 2), 0);
        Due.is("promise 22: token 1", z.token(1, 0), 2);
        Due.is("promise 22: token 2", z.token(2, 0), 3);
        Due.is("promise 22: no token 3", z.token(3, 0), -1);
        Due.is("promise 21: the next one has none", z.part(), 0);
        Due.is("promise 22: they are gone", z.token(0, 0), -1);
    }

    private static void promise21TheNextOne() {
        Watched z = new Watched(3);
        tokens(z, "aa bb cc");
        Due.is("promise 21: fewer", tokens(z, " d"), "1+1=-1");
        Due.is("promise 22: token 1 is gone", z.token(1, 0), -1);
        Due.is("promise 22: token 2 is gone", z.token(2, 0), -1);
        Due.is("promise 21: more", tokens(z, "aa bb cc d"), "0+2=-1 3+2=-1 6+2=-1 9+1=-1");
    }

    public static void main(String[] args) {
        promise17FortyWords();
        promise17ThatOfBeforeWhenFull();
        promise17ThatOfBefore();
        promise17CutBehind6Or9();
        promise18BytesOfShortWords();
        promise17NumbersCountNotSigns();
        promise17CutWithinACode();
        promise17BytesByVersion();
        promise17WithoutAbbreviations();
        promise17WordsStayWhenLettersChange();
        promise18NoSuchWord();
        promise18NoSuchByte();
        promise18EachOf40Words();
        promise19HowMany();
        promise20SignOutside();
        promise20EachEnd();
        promise20NeverASpace();
        promise20EachIsItsOwn();
        promise21NoTokens();
        promise21AsLongAsCanBe();
        promise21EachSeparatorAlone();
        promise21MostTokens();
        promise21ChangesNothingElse();
        promise22EndsOfTheCapitals();
        promise22AllCapitals();
        promise22WordsWithCapitalsAreNotFound();
        promise22CutAndPadded();
        promise22WordsOfTheSignsOfTheTokenAlone();
        promise22ACapitalAsSeparator();
        promise22NoSuchToken();
        promise22WhatOutside();
        promise22AsTheDictionaryWasThen();
        promise21TheyStay();
        promise21TheNextOne();
        Due.end();
    }
}
