/**
 * Promises 1 to 12: each sentence of the document that names a boundary has a test of its own here, at
 * the boundary and at the values next to it.
 */
public final class EdgeStateTest {
    private static final int LEAST = Integer.MIN_VALUE;
    private static final int MOST = Integer.MAX_VALUE;
    private static final String OLD_THIRD = "0123456789.,!?_#'\"/\\<-:()";
    private static final String THIRD = "\r0123456789.,!?_#'\"/\\-:()";

    // ---- What it is: "at most 512 calls"

    private static void callsUpTo512() {
        Watched z = new Watched(3);
        for (int k = 1; k <= 510; k++) {
            Due.is("512 calls: call " + k, z.sign(k), k);
        }
        Due.is("512 calls: the 511th", z.at(509), 510);
        Due.is("512 calls: the 512th", z.size(), 510);
    }

    private static void dearCallsUpTo512() {
        Watched z = Watched.withEntries(4, "abc", "bcd", "cda", "dab");
        z.setRow("abcdabcdabcd");
        int place = z.make(0);
        while (z.callsLeft() > 5) {
            Due.is("512 calls: tell", z.tell(place), 12);
            Due.is("512 calls: numbers", z.numbers(1), 8);
            Due.is("512 calls: word", z.word(), 0);
            Due.is("512 calls: part", z.part(), 1);
            Due.is("512 calls: token", z.token(0, 2), 0);
        }
    }

    // ---- Promise 1: "VERSION as told (1 when it is less, 8 when it is more)"

    private static void promise1VersionTooSmall() {
        Due.is("promise 1: version of 0", new Watched(0).version(), 1);
        Due.is("promise 1: version of -1", new Watched(-1).version(), 1);
        Due.is("promise 1: version of the least int", new Watched(LEAST).version(), 1);
        Due.is("promise 1: 0 is version 1 in all it does", new Watched(0).alphabet(0, 6, 65), -3);
        Watched z = new Watched(0);
        Due.is("promise 1: 1 is 13 in version 0", z.told(z.put(1, 5, 5)), "\r");
    }

    private static void promise1VersionTooLarge() {
        Due.is("promise 1: version of 9", new Watched(9).version(), 8);
        Due.is("promise 1: version of 10", new Watched(10).version(), 8);
        Due.is("promise 1: version of the most int", new Watched(MOST).version(), 8);
        Due.is("promise 1: 9 is version 8 in all it does", new Watched(9).alphabet(0, 6, 65), 97);
    }

    private static void promise1And2VersionAsTold() {
        for (int version = 1; version <= 8; version++) {
            Watched z = new Watched(version);
            Due.is("promise 1, 2: version of " + version, z.version(), version);
            z.feed(1, 1);
            z.sign(65);
            z.tell(0);
            Due.is("promise 2: version of " + version + " behind other calls", z.version(), version);
        }
    }

    // ---- Promise 1: "Nothing in MEMORY, THE ROW, the DICTIONARY; no ENTRY has a place; no SEPARATORS"

    private static void promise1NothingInMemory() {
        for (int version = 1; version <= 8; version++) {
            Watched z = new Watched(version);
            Due.is("promise 1: byte 0", z.byteAt(0), -1);
            Due.is("promise 1: bytes", z.memory(), 0);
            Due.is("promise 1: keep 1", z.keep(1), -2);
            Due.is("promise 1: keep 0", z.keep(0), 0);
            Due.is("promise 1: behind", z.behind(), 0);
        }
    }

    private static void promise1NothingInTheRow() {
        for (int version = 1; version <= 8; version++) {
            Watched z = new Watched(version);
            Due.is("promise 1: sign 0", z.at(0), -1);
            Due.is("promise 1: size", z.size(), 0);
            Due.is("promise 1: numbers", z.numbers(0), 0);
            Due.is("promise 1: tokens", z.token(0, 0), -1);
            Due.is("promise 1: part", z.part(), 0);
        }
    }

    private static void promise1NothingInTheDictionary() {
        for (int version = 1; version <= 8; version++) {
            Watched z = new Watched(version);
            Due.is("promise 1: words", z.words(), 0);
            Due.is("promise 1: word 0", z.wordByte(0, 0), -1);
            z.setRow("a");
            z.part();
            Due.is("promise 1: no word is found", z.token(0, 2), -1);
            Due.is("promise 1: the first word", z.word(), 0);
        }
    }

    private static void promise1NoEntryHasAPlace() {
        for (int version = 1; version <= 8; version++) {
            Watched z = new Watched(version);
            for (int e = 0; e < 96; e++) {
                Due.is("promise 1: entry " + e + " of version " + version, z.entry(e, 0), -1);
            }
        }
    }

    private static void promise1NoSeparators() {
        Watched z = null;
        for (int c = 0; c < 1024; c++) {
            z = c % 500 == 0 ? new Watched(3) : z;
            if (c != 32) {
                Due.is("promise 1: separator " + c, z.separator(c, false), 0);
            }
        }
    }

    private static void promise1NothingOfAnotherObject() {
        Watched one = new Watched(5);
        one.feed(0x94A5, 2);
        one.setRow("go");
        one.word();
        one.part();
        one.entry(7, 0);
        one.separator(44, true);
        one.alphabet(0, 6, 500);
        one.tell(0);
        one.sign(65);
        Watched z = new Watched(5);
        Due.is("promise 1: memory of a second object", z.memory(), 0);
        Due.is("promise 1: row of a second object", z.size(), 0);
        Due.is("promise 1: words of a second object", z.words(), 0);
        Due.is("promise 1: tokens of a second object", z.token(0, 0), -1);
        Due.is("promise 1: entry of a second object", z.entry(7, -1), -1);
        Due.is("promise 1: separator of a second object", z.separator(44, false), 0);
        Due.is("promise 1: letter of a second object", z.alphabet(0, 6, 97), 97);
        Due.is("promise 1: behind of a second object", z.behind(), 0);
        Due.is("promise 1: the first one keeps its row", one.size(), 1);
        Due.is("promise 1: the first one keeps its letter", one.alphabet(0, 6, 97), 500);
    }

    // ---- Promise 3: "The n lowest bytes of v come behind MEMORY, the highest first: how many it has."

    private static void promise3NIsNot0To8() {
        Watched z = new Watched(1);
        Due.is("promise 3: n = -1", z.feed(-1L, -1), -2);
        Due.is("promise 3: n = 0", z.feed(-1L, 0), 0);
        Due.is("promise 3: n = 1", z.feed(-1L, 1), 1);
        Due.is("promise 3: n = 7", z.feed(-1L, 7), 8);
        Due.is("promise 3: n = 8", z.feed(-1L, 8), 16);
        Due.is("promise 3: n = 9", z.feed(-1L, 9), -2);
        Due.is("promise 3: n = 256", z.feed(-1L, 256), -2);
        Due.is("promise 3: least n", z.feed(-1L, LEAST), -2);
        Due.is("promise 3: most n", z.feed(-1L, MOST), -2);
        Due.is("promise 3: refused ones bring nothing", z.memory(), 16);
    }

    private static void promise3LowestBytesHighestFirst() {
        long v = 0x817263544536F708L;
        for (int n = 0; n <= 8; n++) {
            Watched z = new Watched(1);
            z.feed(0x55, 1);
            Due.is("promise 3: how many with n = " + n, z.feed(v, n), n + 1);
            Due.is("promise 3: what was there", z.byteAt(0), 0x55);
            for (int k = 0; k < n; k++) {
                Due.is("promise 3: byte " + k + " of " + n, z.byteAt(1 + k), v >>> 8 * (n - 1 - k) & 255);
            }
            Due.is("promise 3: none behind them", z.byteAt(1 + n), -1);
        }
    }

    private static void promise3BytesOfTheLeastAndMostLong() {
        Watched z = new Watched(8);
        z.feed(Long.MIN_VALUE, 8);
        z.feed(Long.MAX_VALUE, 8);
        z.feed(-1L, 8);
        Due.is("promise 3: highest of the least", z.byteAt(0), 128);
        Due.is("promise 3: next of the least", z.byteAt(1), 0);
        Due.is("promise 3: lowest of the least", z.byteAt(7), 0);
        Due.is("promise 3: highest of the most", z.byteAt(8), 127);
        Due.is("promise 3: next of the most", z.byteAt(9), 255);
        Due.is("promise 3: highest of -1", z.byteAt(16), 255);
        Due.is("promise 3: lowest of -1", z.byteAt(23), 255);
    }

    private static void promise3NoRoomBehind3000() {
        for (int n = 1; n <= 7; n++) {
            Watched z = new Watched(2);
            z.fillMemory(3000 - n);
            Due.is("promise 3: one too many", z.feed(-1L, n + 1), -4);
            Due.is("promise 3: refused one brings nothing", z.memory(), 3000 - n);
            Due.is("promise 3: nor a part", z.byteAt(3000 - n), -1);
            Due.is("promise 3: one less than fits", z.feed(0, n - 1), 2999);
            Due.is("promise 3: two are one too many", z.feed(0, 2), -4);
            Due.is("promise 3: just as many as fit", z.feed(7, 1), 3000);
            Due.is("promise 3: full", z.feed(8, 1), -4);
            Due.is("promise 3: full for eight", z.feed(8, 8), -4);
            Due.is("promise 3: full, but nothing comes", z.feed(8, 0), 3000);
            Due.is("promise 3: the last byte stays", z.byteAt(2999), 7);
        }
    }

    private static void promise3FitsJustWithEachN() {
        for (int n = 1; n <= 8; n++) {
            Watched z = new Watched(2);
            z.fillMemory(3000 - n);
            Due.is("promise 3: fits just, n = " + n, z.feed(0x0102030405060708L, n), 3000);
            Due.is("promise 3: the last of them", z.byteAt(2999), 8);
            Due.is("promise 3: the first of them", z.byteAt(3000 - n), 9 - n);
        }
    }

    private static void promise3BoundsComeBeforeRoom() {
        Watched z = new Watched(2);
        z.fillMemory(3000);
        Due.is("promise 3: full, n = 9", z.feed(0, 9), -2);
        Due.is("promise 3: full, n = -1", z.feed(0, -1), -2);
    }

    // ---- Promise 4: "Byte i of MEMORY. -1."

    private static void promise4NoByteThere() {
        Watched z = new Watched(4);
        Due.is("promise 4: empty, i = 0", z.byteAt(0), -1);
        Due.is("promise 4: empty, i = -1", z.byteAt(-1), -1);
        z.feed(0x00FF80, 3);
        Due.is("promise 4: i = -1", z.byteAt(-1), -1);
        Due.is("promise 4: i = 0", z.byteAt(0), 0);
        Due.is("promise 4: i = 1", z.byteAt(1), 255);
        Due.is("promise 4: the last", z.byteAt(2), 128);
        Due.is("promise 4: behind the last", z.byteAt(3), -1);
        Due.is("promise 4: 2999 when there are fewer", z.byteAt(2999), -1);
        Due.is("promise 4: least i", z.byteAt(LEAST), -1);
        Due.is("promise 4: most i", z.byteAt(MOST), -1);
    }

    private static void promise4LastOfFullMemory() {
        Watched z = new Watched(4);
        z.fillMemory(2992);
        z.feed(0x0102030405060708L, 8);
        Due.is("promise 4: 2998", z.byteAt(2998), 7);
        Due.is("promise 4: 2999", z.byteAt(2999), 8);
        Due.is("promise 4: 3000", z.byteAt(3000), -1);
        Due.is("promise 4: 3001", z.byteAt(3001), -1);
    }

    // ---- Promise 5: "Byte i becomes b: what it was. -1, -2 b is not 0 .. 255."

    private static void promise5NoByteThere() {
        Watched z = new Watched(5);
        Due.is("promise 5: empty", z.poke(0, 1), -1);
        Due.is("promise 5: empty brings nothing", z.memory(), 0);
        z.feed(0x0A0B, 2);
        Due.is("promise 5: i = -1", z.poke(-1, 1), -1);
        Due.is("promise 5: i = 0", z.poke(0, 1), 10);
        Due.is("promise 5: i = 1", z.poke(1, 2), 11);
        Due.is("promise 5: i = 2", z.poke(2, 3), -1);
        Due.is("promise 5: least i", z.poke(LEAST, 3), -1);
        Due.is("promise 5: most i", z.poke(MOST, 3), -1);
        Due.is("promise 5: byte 0", z.byteAt(0), 1);
        Due.is("promise 5: byte 1", z.byteAt(1), 2);
        Due.is("promise 5: no more bytes", z.memory(), 2);
    }

    private static void promise5ByteOutside() {
        Watched z = new Watched(5);
        z.feed(0x0A0B0C, 3);
        Due.is("promise 5: b = -1", z.poke(1, -1), -2);
        Due.is("promise 5: b = 256", z.poke(1, 256), -2);
        Due.is("promise 5: least b", z.poke(1, LEAST), -2);
        Due.is("promise 5: most b", z.poke(1, MOST), -2);
        Due.is("promise 5: refused ones change nothing", z.byteAt(1), 11);
        Due.is("promise 5: b = 0", z.poke(1, 0), 11);
        Due.is("promise 5: b = 1", z.poke(1, 1), 0);
        Due.is("promise 5: b = 254", z.poke(1, 254), 1);
        Due.is("promise 5: b = 255", z.poke(1, 255), 254);
        Due.is("promise 5: it is 255", z.byteAt(1), 255);
        Due.is("promise 5: the one before it", z.byteAt(0), 10);
        Due.is("promise 5: the one behind it", z.byteAt(2), 12);
    }

    private static void promise5NoneSuchComesFirst() {
        Watched z = new Watched(5);
        z.feed(1, 1);
        Due.is("promise 5: no such byte, b = 256", z.poke(1, 256), -1);
        Due.is("promise 5: no such byte, b = -1", z.poke(-1, -1), -1);
    }

    private static void promise5LastOfFullMemory() {
        Watched z = new Watched(5);
        z.fillMemory(3000);
        Due.is("promise 5: 2999", z.poke(2999, 9), 0);
        Due.is("promise 5: 3000", z.poke(3000, 9), -1);
        Due.is("promise 5: it is changed", z.byteAt(2999), 9);
    }

    // ---- Promise 6: "MEMORY keeps its first n bytes: how many it had. -2 n is below 0, or more than it has."

    private static void promise6NOutside() {
        Watched z = new Watched(6);
        Due.is("promise 6: empty, n = 1", z.keep(1), -2);
        Due.is("promise 6: empty, n = 0", z.keep(0), 0);
        Due.is("promise 6: empty, n = -1", z.keep(-1), -2);
        z.feed(0x010203, 3);
        Due.is("promise 6: n = -1", z.keep(-1), -2);
        Due.is("promise 6: n = 4 of 3", z.keep(4), -2);
        Due.is("promise 6: least n", z.keep(LEAST), -2);
        Due.is("promise 6: most n", z.keep(MOST), -2);
        Due.is("promise 6: n = 3000", z.keep(3000), -2);
        Due.is("promise 6: refused ones change nothing", z.memory(), 3);
        Due.is("promise 6: the last byte stays", z.byteAt(2), 3);
    }

    private static void promise6AllButOneAndNone() {
        Watched z = new Watched(6);
        z.feed(0x010203, 3);
        Due.is("promise 6: all", z.keep(3), 3);
        Due.is("promise 6: all are there", z.byteAt(2), 3);
        Due.is("promise 6: all but one", z.keep(2), 3);
        Due.is("promise 6: the last is gone", z.byteAt(2), -1);
        Due.is("promise 6: the one before is not", z.byteAt(1), 2);
        Due.is("promise 6: more than are left", z.keep(3), -2);
        Due.is("promise 6: one", z.keep(1), 2);
        Due.is("promise 6: none", z.keep(0), 1);
        Due.is("promise 6: all are gone", z.byteAt(0), -1);
        Due.is("promise 6: new ones come from 0 on", z.feed(9, 1), 1);
        Due.is("promise 6: the new one", z.byteAt(0), 9);
        Due.is("promise 6: the old ones do not come back", z.byteAt(1), -1);
    }

    private static void promise6FullMemory() {
        Watched z = new Watched(6);
        z.fillMemory(3000);
        Due.is("promise 6: 3001", z.keep(3001), -2);
        Due.is("promise 6: 3000", z.keep(3000), 3000);
        Due.is("promise 6: 2999", z.keep(2999), 3000);
        Due.is("promise 6: room for one", z.feed(5, 1), 3000);
        Due.is("promise 6: no room for two", z.feed(5, 1), -4);
    }

    private static void promise6AllElseStays() {
        Watched z = Watched.withEntries(5, "abc");
        z.setRow("go");
        z.word();
        z.part();
        z.tell(0);
        z.keep(0);
        Due.is("promise 6: the row stays", z.row(), "abc");
        Due.is("promise 6: words stay", z.wordByte(0, 0), 12 << 2 | 20 >> 3);
        Due.is("promise 6: tokens stay", z.token(0, 1), 2);
        Due.is("promise 6: behind stays", z.behind(), 2);
        Due.is("promise 6: the entry keeps its place", z.entry(0, 0), 0);
        Due.is("promise 6: it tells nothing there", z.numbers(1), 3);
        z.put(6, 7, 8);
        Due.is("promise 6: it tells what has come there", z.numbers(1), 2);
    }

    // ---- Promise 7: "A SIGN comes behind THE ROW: how many it has; -1: THE ROW is empty: 0."

    private static void promise7SignOutside() {
        Watched z = new Watched(7);
        Due.is("promise 7: -2", z.sign(-2), -2);
        Due.is("promise 7: 1024", z.sign(1024), -2);
        Due.is("promise 7: 1025", z.sign(1025), -2);
        Due.is("promise 7: least", z.sign(LEAST), -2);
        Due.is("promise 7: most", z.sign(MOST), -2);
        Due.is("promise 7: refused ones bring nothing", z.size(), 0);
        Due.is("promise 7: 0", z.sign(0), 1);
        Due.is("promise 7: 1", z.sign(1), 2);
        Due.is("promise 7: 1022", z.sign(1022), 3);
        Due.is("promise 7: 1023", z.sign(1023), 4);
        Due.is("promise 7: refused behind others", z.sign(1024), -2);
        Due.is("promise 7: the row", z.row(), "\u0000\u0001\u03fe\u03ff");
    }

    private static void promise7EmptiesTheRow() {
        Watched z = new Watched(7);
        Due.is("promise 7: an empty one", z.sign(-1), 0);
        z.sign(65);
        Due.is("promise 7: one of one", z.sign(-1), 0);
        Due.is("promise 7: none there", z.at(0), -1);
        z.fillRow(1000);
        Due.is("promise 7: a full one", z.sign(-1), 0);
        Due.is("promise 7: none in it", z.size(), 0);
        Due.is("promise 7: old ones are gone", z.at(0), -1);
        Due.is("promise 7: comes anew", z.sign(66), 1);
        Due.is("promise 7: the new one", z.at(0), 66);
        Due.is("promise 7: the next is not an old one", z.at(1), -1);
    }

    private static void promise7NoRoomBehind1000() {
        Watched z = new Watched(7);
        z.fillRow(998);
        Due.is("promise 7: the 999th", z.sign(1), 999);
        Due.is("promise 7: the 1000th", z.sign(2), 1000);
        Due.is("promise 7: a 1001st", z.sign(3), -4);
        Due.is("promise 7: still 1000", z.size(), 1000);
        Due.is("promise 7: the last stays", z.at(999), 2);
        Due.is("promise 7: bounds come before room, above", z.sign(1024), -2);
        Due.is("promise 7: bounds come before room, below", z.sign(-2), -2);
    }

    // ---- Promise 8: "The n lowest bytes of v, the highest first, come as SIGNS behind THE ROW"

    private static void promise8NIsNot0To8() {
        Watched z = new Watched(8);
        Due.is("promise 8: n = -1", z.type(-1L, -1), -2);
        Due.is("promise 8: n = 0", z.type(-1L, 0), 0);
        Due.is("promise 8: n = 1", z.type(-1L, 1), 1);
        Due.is("promise 8: n = 7", z.type(-1L, 7), 8);
        Due.is("promise 8: n = 8", z.type(-1L, 8), 16);
        Due.is("promise 8: n = 9", z.type(-1L, 9), -2);
        Due.is("promise 8: least n", z.type(-1L, LEAST), -2);
        Due.is("promise 8: most n", z.type(-1L, MOST), -2);
        Due.is("promise 8: refused ones bring nothing", z.size(), 16);
    }

    private static void promise8LowestBytesHighestFirst() {
        long v = 0x817263544536F700L;
        for (int n = 0; n <= 8; n++) {
            Watched z = new Watched(8);
            z.sign(1023);
            Due.is("promise 8: how many with n = " + n, z.type(v, n), n + 1);
            Due.is("promise 8: what was there", z.at(0), 1023);
            for (int k = 0; k < n; k++) {
                Due.is("promise 8: sign " + k + " of " + n, z.at(1 + k), v >>> 8 * (n - 1 - k) & 255);
            }
            Due.is("promise 8: none behind them", z.at(1 + n), -1);
        }
    }

    private static void promise8NoRoomBehind1000() {
        for (int n = 1; n <= 8; n++) {
            Watched z = new Watched(8);
            z.fillRow(1000 - n);
            if (n < 8) {
                Due.is("promise 8: one too many", z.type(-1L, n + 1), -4);
            }
            Due.is("promise 8: refused one brings nothing", z.size(), 1000 - n);
            Due.is("promise 8: nor a part", z.at(1000 - n), -1);
            Due.is("promise 8: fits just, n = " + n, z.type(0x0102030405060708L, n), 1000);
            Due.is("promise 8: the first of them", z.at(1000 - n), 9 - n);
            Due.is("promise 8: the last of them", z.at(999), 8);
            Due.is("promise 8: full", z.type(9, 1), -4);
            Due.is("promise 8: full, but nothing comes", z.type(9, 0), 1000);
            Due.is("promise 8: bounds come before room, above", z.type(9, 9), -2);
            Due.is("promise 8: bounds come before room, below", z.type(9, -1), -2);
        }
    }

    private static void promise8OneLessThanFits() {
        Watched z = new Watched(8);
        z.fillRow(992);
        Due.is("promise 8: seven of eight", z.type(0, 7), 999);
        Due.is("promise 8: two of one", z.type(0, 2), -4);
        Due.is("promise 8: one of one", z.type(0, 1), 1000);
    }

    // ---- Promise 9: "How many SIGNS THE ROW has."

    private static void promise9EmptyOneAndFull() {
        Watched z = new Watched(1);
        Due.is("promise 9: empty", z.size(), 0);
        z.sign(5);
        Due.is("promise 9: one", z.size(), 1);
        z.fillRow(999);
        Due.is("promise 9: 999", z.size(), 999);
        z.sign(5);
        Due.is("promise 9: 1000", z.size(), 1000);
        z.sign(5);
        Due.is("promise 9: still 1000", z.size(), 1000);
        z.sign(-1);
        Due.is("promise 9: empty again", z.size(), 0);
    }

    // ---- Promise 10: "SIGN i of THE ROW. -1."

    private static void promise10NoSignThere() {
        Watched z = new Watched(2);
        Due.is("promise 10: empty, i = 0", z.at(0), -1);
        Due.is("promise 10: empty, i = -1", z.at(-1), -1);
        z.sign(0);
        z.sign(1023);
        Due.is("promise 10: i = -1", z.at(-1), -1);
        Due.is("promise 10: i = 0", z.at(0), 0);
        Due.is("promise 10: i = 1", z.at(1), 1023);
        Due.is("promise 10: i = 2", z.at(2), -1);
        Due.is("promise 10: least i", z.at(LEAST), -1);
        Due.is("promise 10: most i", z.at(MOST), -1);
        z.sign(-1);
        z.fillRow(998);
        z.sign(700);
        z.sign(800);
        Due.is("promise 10: 998", z.at(998), 700);
        Due.is("promise 10: 999", z.at(999), 800);
        Due.is("promise 10: 1000", z.at(1000), -1);
        Due.is("promise 10: 1001", z.at(1001), -1);
    }

    // ---- Promise 11: "-3 VERSION is below 5, -1 no such ALPHABET, number 6 .. 31, or 6, 7 of ALPHABET 2, -2"

    private static void promise11VersionBelow5() {
        for (int version = 1; version <= 8; version++) {
            Watched z = new Watched(version);
            Due.is("promise 11: version " + version, z.alphabet(0, 6, 500), version < 5 ? -3 : 97);
            z.tell(z.put(6));
            Due.is("promise 11: told in version " + version, z.at(0), version < 5 ? 97 : 500);
        }
    }

    private static void promise11VersionComesFirst() {
        for (int version = 3; version <= 4; version++) {
            Watched z = new Watched(version);
            Due.is("promise 11: no such alphabet in version " + version, z.alphabet(3, 6, 65), -3);
            Due.is("promise 11: no such number in version " + version, z.alphabet(0, 32, 65), -3);
            Due.is("promise 11: the escape in version " + version, z.alphabet(2, 6, 65), -3);
            Due.is("promise 11: c = 1024 in version " + version, z.alphabet(0, 6, 1024), -3);
        }
    }

    private static void promise11NoSuchAlphabet() {
        Watched z = new Watched(5);
        Due.is("promise 11: alphabet -1", z.alphabet(-1, 8, 65), -1);
        Due.is("promise 11: alphabet 0", z.alphabet(0, 8, 500), 99);
        Due.is("promise 11: alphabet 1", z.alphabet(1, 8, 501), 67);
        Due.is("promise 11: alphabet 2", z.alphabet(2, 8, 502), 48);
        Due.is("promise 11: alphabet 3", z.alphabet(3, 8, 65), -1);
        Due.is("promise 11: least alphabet", z.alphabet(LEAST, 8, 65), -1);
        Due.is("promise 11: most alphabet", z.alphabet(MOST, 8, 65), -1);
        Due.is("promise 11: each has its own", z.told(z.put(8, 4, 8, 5, 8)), "\u01f4\u01f5\u01f6");
    }

    private static void promise11NumberIsNot6To31() {
        for (int alphabet = 0; alphabet <= 2; alphabet++) {
            Watched z = new Watched(6);
            Due.is("promise 11: number 5", z.alphabet(alphabet, 5, 65), -1);
            Due.is("promise 11: number 0", z.alphabet(alphabet, 0, 65), -1);
            Due.is("promise 11: number -1", z.alphabet(alphabet, -1, 65), -1);
            Due.is("promise 11: number 32", z.alphabet(alphabet, 32, 65), -1);
            Due.is("promise 11: number 33", z.alphabet(alphabet, 33, 65), -1);
            Due.is("promise 11: least number", z.alphabet(alphabet, LEAST, 65), -1);
            Due.is("promise 11: most number", z.alphabet(alphabet, MOST, 65), -1);
            Due.is("promise 11: number 30", z.alphabet(alphabet, 30, 65), "yY(".charAt(alphabet));
            Due.is("promise 11: number 31", z.alphabet(alphabet, 31, 65), "zZ)".charAt(alphabet));
        }
    }

    private static void promise11SixAndSevenOfAlphabet2() {
        for (int version = 5; version <= 8; version++) {
            Watched z = new Watched(version);
            Due.is("promise 11: 6 of alphabet 2", z.alphabet(2, 6, 500), -1);
            Due.is("promise 11: 7 of alphabet 2", z.alphabet(2, 7, 500), -1);
            Due.is("promise 11: 8 of alphabet 2", z.alphabet(2, 8, 500), 48);
            Due.is("promise 11: 6 of alphabet 0", z.alphabet(0, 6, 501), 97);
            Due.is("promise 11: 7 of alphabet 0", z.alphabet(0, 7, 502), 98);
            Due.is("promise 11: 6 of alphabet 1", z.alphabet(1, 6, 503), 65);
            Due.is("promise 11: 7 of alphabet 1", z.alphabet(1, 7, 504), 66);
            Due.is("promise 11: the escape stays, 7 stays 13", z.told(z.put(5, 6, 2, 1, 5, 7)), "A\r");
        }
    }

    private static void promise11SignOutside() {
        Watched z = new Watched(7);
        Due.is("promise 11: c = -1", z.alphabet(0, 6, -1), -2);
        Due.is("promise 11: c = 1024", z.alphabet(0, 6, 1024), -2);
        Due.is("promise 11: least c", z.alphabet(0, 6, LEAST), -2);
        Due.is("promise 11: most c", z.alphabet(0, 6, MOST), -2);
        Due.is("promise 11: c = 0, refused ones changed nothing", z.alphabet(0, 6, 0), 97);
        Due.is("promise 11: c = 1", z.alphabet(0, 6, 1), 0);
        Due.is("promise 11: c = 1022", z.alphabet(0, 6, 1022), 1);
        Due.is("promise 11: c = 1023", z.alphabet(0, 6, 1023), 1022);
        Due.is("promise 11: told", z.told(z.put(6)), "\u03ff");
    }

    private static void promise11NoneSuchComesBeforeOutside() {
        Watched z = new Watched(8);
        Due.is("promise 11: no such alphabet, c = 1024", z.alphabet(3, 8, 1024), -1);
        Due.is("promise 11: no such number, c = -1", z.alphabet(1, 5, -1), -1);
        Due.is("promise 11: 7 of alphabet 2, c = 1024", z.alphabet(2, 7, 1024), -1);
    }

    // ---- Terms: "26 LETTERS each, for the numbers 6 to 31"

    private static void promise11LettersOfANewObject() {
        for (int version = 5; version <= 8; version++) {
            Watched z = new Watched(version);
            for (int number = 6; number <= 31; number++) {
                Due.is("promise 11: alphabet 0, " + number, z.alphabet(0, number, 1), 97 + number - 6);
                Due.is("promise 11: alphabet 1, " + number, z.alphabet(1, number, 1), 65 + number - 6);
                if (number >= 8) {
                    Due.is("promise 11: alphabet 2, " + number, z.alphabet(2, number, 1), THIRD.charAt(number - 7));
                }
            }
        }
    }

    private static void promise13LettersOfEachVersion() {
        for (int version = 1; version <= 8; version++) {
            Watched z = new Watched(version);
            int toSecond = version <= 2 ? 2 : 4;
            String third = version == 1 ? OLD_THIRD : THIRD;
            for (int number = 6; number <= 31; number++) {
                String letters = "" + (char) (91 + number) + (char) (59 + number);
                if (number > 6) {
                    letters += third.charAt(number - 7);
                }
                int place = number > 6 ? z.put(number, toSecond, number, toSecond + 1, number)
                    : z.put(number, toSecond, number);
                Due.is("promise 13: letters of version " + version + " for " + number, z.told(place), letters);
            }
        }
    }

    // ---- Promise 12: "An ENTRY (0 to 95) gets a place (-1: none): what it had."

    private static void promise12NoSuchEntry() {
        Watched z = new Watched(3);
        Due.is("promise 12: entry -1", z.entry(-1, 5), -1);
        Due.is("promise 12: entry 96", z.entry(96, 5), -1);
        Due.is("promise 12: entry 97", z.entry(97, 5), -1);
        Due.is("promise 12: least entry", z.entry(LEAST, 5), -1);
        Due.is("promise 12: most entry", z.entry(MOST, 5), -1);
        Due.is("promise 12: refused again, for it got no place", z.entry(96, 6), -1);
        Due.is("promise 12: below 0 again", z.entry(-1, 6), -1);
        for (int e : new int[] {0, 1, 94, 95}) {
            Due.is("promise 12: entry " + e, z.entry(e, 100 + e), -1);
        }
        for (int e : new int[] {0, 1, 94, 95}) {
            Due.is("promise 12: entry " + e + " had", z.entry(e, -1), 100 + e);
        }
    }

    private static void promise12AllEntriesAreTheirOwn() {
        for (int version = 1; version <= 8; version++) {
            Watched z = new Watched(version);
            for (int e = 0; e < 96; e++) {
                Due.is("promise 12: entry " + e + " had none", z.entry(e, 3000 - e), -1);
            }
            for (int e = 0; e < 96; e++) {
                Due.is("promise 12: entry " + e + " had its own", z.entry(e, e), 3000 - e);
            }
        }
    }

    private static void promise12PlaceOutside() {
        Watched z = new Watched(3);
        z.entry(4, 77);
        Due.is("promise 12: place -2", z.entry(4, -2), -2);
        Due.is("promise 12: place 3001", z.entry(4, 3001), -2);
        Due.is("promise 12: least place", z.entry(4, LEAST), -2);
        Due.is("promise 12: most place", z.entry(4, MOST), -2);
        Due.is("promise 12: place 0, refused ones changed nothing", z.entry(4, 0), 77);
        Due.is("promise 12: place 1", z.entry(4, 1), 0);
        Due.is("promise 12: place 2999", z.entry(4, 2999), 1);
        Due.is("promise 12: place 3000", z.entry(4, 3000), 2999);
        Due.is("promise 12: place -1", z.entry(4, -1), 3000);
        Due.is("promise 12: it had none", z.entry(4, 5), -1);
    }

    private static void promise12NoneSuchComesFirst() {
        Watched z = new Watched(3);
        Due.is("promise 12: entry 96, place 3001", z.entry(96, 3001), -1);
        Due.is("promise 12: entry -1, place -2", z.entry(-1, -2), -1);
        Due.is("promise 12: entry 95, place 3001", z.entry(95, 3001), -2);
        Due.is("promise 12: entry 0, place -2", z.entry(0, -2), -2);
    }

    private static void promise12NoPlaceAgain() {
        Watched z = Watched.withEntries(3, "abc");
        int place = z.put(1, 0);
        Due.is("promise 12: it has a place", z.told(place), "abc");
        Due.is("promise 12: the place that it had", z.entry(0, -1), 0);
        Due.is("promise 12: it has none", z.told(place), "FAULT 3");
        Due.is("promise 12: had none", z.entry(0, 0), -1);
        Due.is("promise 12: it has one again", z.told(place), "abc");
    }

    public static void main(String[] args) {
        callsUpTo512();
        dearCallsUpTo512();
        promise1VersionTooSmall();
        promise1VersionTooLarge();
        promise1And2VersionAsTold();
        promise1NothingInMemory();
        promise1NothingInTheRow();
        promise1NothingInTheDictionary();
        promise1NoEntryHasAPlace();
        promise1NoSeparators();
        promise1NothingOfAnotherObject();
        promise3NIsNot0To8();
        promise3LowestBytesHighestFirst();
        promise3BytesOfTheLeastAndMostLong();
        promise3NoRoomBehind3000();
        promise3FitsJustWithEachN();
        promise3BoundsComeBeforeRoom();
        promise4NoByteThere();
        promise4LastOfFullMemory();
        promise5NoByteThere();
        promise5ByteOutside();
        promise5NoneSuchComesFirst();
        promise5LastOfFullMemory();
        promise6NOutside();
        promise6AllButOneAndNone();
        promise6FullMemory();
        promise6AllElseStays();
        promise7SignOutside();
        promise7EmptiesTheRow();
        promise7NoRoomBehind1000();
        promise8NIsNot0To8();
        promise8LowestBytesHighestFirst();
        promise8NoRoomBehind1000();
        promise8OneLessThanFits();
        promise9EmptyOneAndFull();
        promise10NoSignThere();
        promise11VersionBelow5();
        promise11VersionComesFirst();
        promise11NoSuchAlphabet();
        promise11NumberIsNot6To31();
        promise11SixAndSevenOfAlphabet2();
        promise11SignOutside();
        promise11NoneSuchComesBeforeOutside();
        promise11LettersOfANewObject();
        promise13LettersOfEachVersion();
        promise12NoSuchEntry();
        promise12AllEntriesAreTheirOwn();
        promise12PlaceOutside();
        promise12NoneSuchComesFirst();
        promise12NoPlaceAgain();
        Due.end();
    }
}
