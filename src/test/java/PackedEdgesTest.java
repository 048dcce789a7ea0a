import java.util.Arrays;

/** Part 3: each sentence at its edges, with the place of each FAULT and when it is told. */
public final class PackedEdgesTest {
    private static final Due DUE = new Due();

    public static void main(String[] args) {
        lastBitAndSort();
        restOfTheByte();
        lengthAndItsTurned();
        storedBytes();
        fixedSymbols();
        fixedDistances();
        mostOfHAndK();
        howManyLengths();
        lengthsOfOthersAre0();
        repeats();
        noneBefore();
        completeLengthCodes();
        symbol256();
        completeSymbols();
        completeDistances();
        noCodeBegins();
        lengths();
        distances();
        beforeTheFirstByte();
        aByteMore();
        placesOfSymbols();
        whenAllHasBeenTaken();
        bitsThatAreLeft();
        bytesLeft();
        packed();
        DUE.close();
    }

    private static void sound(String what, byte[] tape, byte[] want) {
        ArchiveShelf shelf = new ArchiveShelf();
        // A fault to be forgotten, and a buffer to be lost.
        shelf.read(0);
        Shelves.type(shelf, "before");
        Shelves.feed(shelf, tape);
        DUE.same(what + ": unpack", shelf.unpack(), want.length);
        DUE.same(what + ": buffer", Shelves.buffer(shelf), want);
        DUE.same(what + ": fault", shelf.fault(0), 0);
        DUE.same(what + ": place", shelf.fault(1), -1);
    }

    private static void sound(String what, Bits bits, String want) {
        sound(what, bits.done(), Shelves.bytes(want));
    }

    private static void fault(String what, byte[] tape, int number, int place) {
        ArchiveShelf shelf = new ArchiveShelf();
        Shelves.type(shelf, "before");
        Shelves.feed(shelf, tape);
        DUE.same(what + ": unpack", shelf.unpack(), -1);
        DUE.same(what + ": fault", shelf.fault(0), number);
        DUE.same(what + ": place", shelf.fault(1), place);
        DUE.same(what + ": buffer", Shelves.buffer(shelf), Shelves.bytes("before"));
    }

    private static void fault(String what, Bits bits, int number, int place) {
        fault(what, bits.done(), number, place);
    }

    private static int bytesBefore(int offset) {
        return Math.floorMod(offset - 2, 8);
    }

    /** A block that is not the last and ends so many bits behind a byte's first; it has such bytes, each 200. */
    private static Bits shifted(int offset) {
        Bits bits = new Bits().block(false, 1);
        for (int i = 0; i < bytesBefore(offset); i++) {
            bits.fixed(200);
        }
        return bits.fixed(256);
    }

    private static byte[] then(int offset, String more) {
        byte[] row = new byte[bytesBefore(offset)];
        Arrays.fill(row, (byte) 200);
        return Shelves.join(row, Shelves.bytes(more));
    }

    private static int place(Bits bits) {
        return bits.bitCount() / 8;
    }

    private static Bits end(Bits bits) {
        return bits.block(true, 1).fixed(256);
    }

    /** "BLOCKS: one bit, 1 in the last; two bits, its sort." "Sort 3: 21." "at the byte with the first bit of the block". */
    private static void lastBitAndSort() {
        for (int offset = 0; offset < 8; offset++) {
            DUE.same("it ends there", shifted(offset).bitCount() % 8, offset);
            int place = place(shifted(offset));
            sound("last one " + offset, end(shifted(offset)).done(), then(offset, ""));
            sound("two more " + offset, end(shifted(offset).block(false, 1).fixed(256)).done(), then(offset, ""));
            fault("sort 3 " + offset, shifted(offset).block(true, 3), 21, place);
            fault("sort 3 " + offset, shifted(offset).block(false, 3).rest().bytes(1, 2, 3), 21, place);
            Bits notLast = shifted(offset).block(false, 1).fixed(256);
            // The rest of the byte's bits, all 0, may begin another block, of sort 0; it lacks.
            fault("not the last " + offset, notLast, 20, notLast.length());
        }
        fault("no byte", new byte[0], 20, 0);
        for (int offset : new int[] {6, 7}) {
            // One or two bits of three are there.
            Bits bits = shifted(offset).number(255, 8 - offset);
            fault("of three bits " + (8 - offset), bits, 20, bits.length());
        }
        Bits three = shifted(5).number(7, 3);
        fault("three bits", three, 21, place(shifted(5)));
    }

    /** "Sort 0: the rest of the byte's bits go". */
    private static void restOfTheByte() {
        for (int offset = 0; offset < 8; offset++) {
            for (int rest : new int[] {0, 255}) {
                Bits bits = shifted(offset).block(true, 0);
                bits.number(rest, Math.floorMod(-bits.bitCount(), 8)).bytes(1, 0, 254, 255, 'x');
                sound("rest " + rest + " of " + offset, bits.done(), then(offset, "x"));
            }
        }
    }

    private static Bits stored(Bits bits, boolean last, int length) {
        return bits.block(last, 0).rest().bytes(length & 255, length >> 8, 255 - (length & 255), 255 - (length >> 8));
    }

    /** "a little number of 2 bytes, L, and 65535 less L, likewise (22)". */
    private static void lengthAndItsTurned() {
        for (int offset : new int[] {0, 2, 5, 6, 7}) {
            int place = place(shifted(offset));
            for (int bit = 0; bit < 16; bit++) {
                byte[] row = stored(shifted(offset), true, 1).bytes('x').done();
                for (int field : new int[] {5, 3}) {
                    byte[] other = row.clone();
                    other[row.length - field + bit / 8] ^= 1 << bit % 8;
                    fault("another bit " + bit, other, 22, place);
                }
            }
        }
        sound("L 0", stored(new Bits(), true, 0), "");
        fault("L 0, less by one", new Bits().block(true, 0).rest().bytes(0, 0, 254, 255), 22, 0);
        fault("L 1, the same again", new Bits().block(true, 0).rest().bytes(1, 0, 1, 0, 'x'), 22, 0);
        fault("L 65535, and 1", new Bits().block(true, 0).rest().bytes(255, 255, 1, 0), 22, 0);
        byte[] wrong = new Bits().block(true, 0).rest().bytes(1, 0, 1, 0).done();
        for (int n = 1; n < 5; n++) {
            fault("before all of it " + n, Arrays.copyOf(wrong, n), 20, n);
        }
        fault("all of it", wrong, 22, 0);
    }

    /** "L bytes." */
    private static void storedBytes() {
        for (int n : new int[] {0, 1, 2, 255, 256, 257, 511, 512, 513}) {
            byte[] row = new byte[n];
            for (int i = 0; i < n; i++) {
                row[i] = (byte) (i * 7 + 1);
            }
            byte[] tape = Shelves.join(stored(new Bits(), true, n).done(), row);
            if (n <= 512) {
                sound("L " + n, tape, row);
                fault("a byte more", Shelves.join(tape, new byte[1]), 27, tape.length);
            } else {
                fault("L " + n, tape, 23, 5 + 512);
            }
            if (n > 0) {
                fault("a byte less of " + n, Arrays.copyOf(tape, tape.length - 1), 20, tape.length - 1);
            }
        }
        byte[] most = stored(new Bits(), true, 65535).done();
        fault("L 65535, no byte", most, 20, 5);
        fault("L 65535, 512 bytes", Shelves.join(most, new byte[512]), 20, 5 + 512);
        fault("L 65535, 513 bytes", Shelves.join(most, new byte[513]), 23, 5 + 512);
    }

    /** "of symbols 0 .. 143 8, to 255 9, to 279 7, to 287 8"; "a symbol above 285" (25). */
    private static void fixedSymbols() {
        for (int v : new int[] {0, 1, 142, 143, 144, 145, 254, 255}) {
            sound("byte " + v, new Bits().block(true, 1).fixed(v).fixed(256).done(), Shelves.row(v));
        }
        int[] symbols = {257, 264, 265, 279, 280, 284, 285};
        int[] bits = {0, 0, 1, 4, 4, 5, 0};
        int[] least = {3, 10, 11, 99, 115, 227, 258};
        for (int i = 0; i < symbols.length; i++) {
            Bits row = new Bits().block(true, 1).fixed('a').fixed(symbols[i]).number(0, bits[i]).far(0).fixed(256);
            sound("symbol " + symbols[i], row, "a".repeat(least[i] + 1));
        }
        for (int symbol : new int[] {286, 287}) {
            fault("symbol " + symbol, new Bits().block(true, 1).fixed('a').fixed(symbol).far(0).fixed(256), 25, 1);
        }
    }

    /** "of distances 0 .. 31 5"; "a distance's above 29" (25). */
    private static void fixedDistances() {
        for (int far = 0; far < 32; far++) {
            Bits bits = new Bits().block(true, 1).fixed('a').fixed(257).far(far).number(0, far < 4 ? 0 : far / 2 - 1)
                    .fixed(256);
            if (far == 0) {
                sound("distance 0", bits, "aaaa");
            } else {
                fault("distance " + far, bits, far <= 29 ? 26 : 25, 1);
            }
        }
    }

    /** "(H, at most 286)"; "(K, at most 30)"; "24: H or K is above its most". */
    private static void mostOfHAndK() {
        for (int h = 257; h <= 288; h++) {
            for (int k = 1; k <= 32; k++) {
                Tables tables = new Tables(Tables.lengths(h, 'a', 1, 256, 1), Tables.lengths(k, k - 1, 1));
                Bits bits = tables.head(shifted(3), true).code(tables.symbol('a')).code(tables.symbol(256));
                if (h <= 286 && k <= 30) {
                    sound("H " + h + ", K " + k, bits.done(), then(3, "a"));
                } else {
                    fault("H " + h + ", K " + k, bits, 24, place(shifted(3)));
                }
            }
        }
    }

    /** "4 bits, and 4; then so many of 3 bits: the lengths for 16 17 18 0 8 .. 15, 0 for others". */
    private static void howManyLengths() {
        int[] order = {16, 17, 18, 0, 8, 7, 9, 6, 10, 5, 11, 4, 12, 3, 13, 2, 14, 1, 15};
        // All lengths are 0: symbol 256 has none.
        Bits four = new Bits().block(true, 2).number(0, 5).number(0, 5).number(0, 4).number(0, 6).number(1, 3).number(1, 3)
                .code("1").number(127, 7).code("1").number(109, 7);
        fault("4 of them", four, 24, 0);
        // The last one told is 1 bit, 16 or (if that is the last) 0 the other one.
        for (int n = 5; n <= 19; n++) {
            int length = order[n - 1];
            Bits bits = new Bits().block(true, 2).number(0, 5).number(0, 5).number(n - 4, 4);
            for (int i = 0; i < n; i++) {
                bits.number(i == n - 1 || order[i] == 0 ? 1 : 0, 3);
            }
            // 0 is 0 and the other one is 1: 2 to that length symbols have it, if there are so many.
            int symbols = length > 8 ? 0 : 1 << length;
            for (int i = 0; i < 257; i++) {
                bits.code(i == 256 || i < symbols - 1 ? "1" : "0");
            }
            bits.code("0").code("1".repeat(length));
            if (length <= 8) {
                sound(n + " of them, for " + length, bits, "");
            } else {
                fault(n + " of them, for " + length, bits, 24, 0);
            }
        }
    }

    /** "0 for others": also of what another block told before. */
    private static void lengthsOfOthersAre0() {
        Tables tables = new Tables(Tables.lengths(257, 'a', 1, 256, 1), Tables.lengths(1, 0, 1));
        Bits bits = tables.head(new Bits(), false).code(tables.symbol('a')).code(tables.symbol(256));
        // Of five lengths two are 1: for 0, and for 8, which 256 symbols have.
        bits.block(true, 2).number(0, 5).number(0, 5).number(1, 4).number(0, 9).number(1, 3).number(1, 3);
        bits.code("1".repeat(255)).code("0").code("1").code("0");
        bits.code("00000101").code("11111111");
        sound("fewer than before", bits, "a\5");
    }

    private static final int[] THREE_BITS = {0, 3, 1, 3, 2, 3, 3, 3, 9, 3, 16, 3, 17, 3, 18, 3};
    private static final String L0 = "000";
    private static final String L1 = "001";
    private static final String L16 = "101";
    private static final String L17 = "110";
    private static final String L18 = "111";

    /** Up to the lengths of symbols, 'a' and the end of one bit each: those of k distances follow. */
    private static Bits upToDistances(int k) {
        return new Bits().block(true, 2).tables(257, k, THREE_BITS).code(L18).number(97 - 11, 7).code(L1)
                .code(L18).number(127, 7).code(L18).number(20 - 11, 7).code(L1);
    }

    private static void row(String what, Bits bits, boolean good) {
        bits.code("0").code("1").rest();
        if (good) {
            sound(what, bits, "a");
        } else {
            fault(what, bits.bytes(0, 0), 24, 0);
        }
    }

    /** "16: the one before 3 and a number of 2 bits times; 17: 0, 3 and 3 bits; 18: 0, 11 and 7 bits"; "beyond H and K" (24). */
    private static void repeats() {
        for (int n = 0; n < 4; n++) {
            for (int k = 3; k <= 7; k++) {
                // A length of 0, the one before 3 + n times, and 0s by themselves up to K.
                Bits bits = upToDistances(k).code(L0).code(L16).number(n, 2);
                row("16 and " + n + " of " + k, bits.code(L0.repeat(Math.max(0, k - 4 - n))), 4 + n <= k);
            }
        }
        for (int n = 0; n < 8; n++) {
            for (int k = 2; k <= 11; k++) {
                Bits bits = upToDistances(k).code(L17).number(n, 3);
                row("17 and " + n + " of " + k, bits.code(L0.repeat(Math.max(0, k - 3 - n))), 3 + n <= k);
            }
        }
        for (int n : new int[] {0, 1, 18, 19, 20, 126, 127}) {
            for (int k : new int[] {10, 11, 12, 28, 29, 30}) {
                Bits bits = upToDistances(k).code(L18).number(n, 7);
                row("18 and " + n + " of " + k, bits.code(L0.repeat(Math.max(0, k - 11 - n))), 11 + n <= k);
            }
        }
        row("16 behind 17", upToDistances(6).code(L17).number(0, 3).code(L16).number(0, 2), true);
        row("16 behind 16", upToDistances(7).code(L0).code(L16).number(0, 2).code(L16).number(0, 2), true);
        row("16 behind 18", upToDistances(14).code(L18).number(0, 7).code(L16).number(0, 2), true);
        row("16 behind a length that is not 0", upToDistances(4).code(L1).code(L16).number(0, 2), false);
        row("16 of what symbols had last", upToDistances(3).code(L16).number(0, 2), false);
        // 17 and 18 from symbols into distances, up to K and beyond.
        for (int k = 2; k <= 4; k++) {
            Bits bits = new Bits().block(true, 2).tables(258, k, THREE_BITS).code(L18).number(97 - 11, 7).code(L1)
                    .code(L18).number(127, 7).code(L18).number(20 - 11, 7).code(L1).code(L17).number(1, 3);
            row("17 from symbols on, K " + k, bits.code(L0.repeat(Math.max(0, k - 3))), k >= 3);
        }
    }

    /** "16 with none before" (24). */
    private static void noneBefore() {
        Bits first = new Bits().block(true, 2).tables(257, 1, THREE_BITS).code(L16).number(0, 2).code("0".repeat(900));
        fault("16 first", first, 24, 0);
        // Were it 0 three times, all would be well.
        Bits well = new Bits().block(true, 2).tables(257, 1, THREE_BITS).code(L16).number(0, 2).code(L18)
                .number(94 - 11, 7).code(L1).code(L18).number(127, 7).code(L18).number(20 - 11, 7).code(L1).code(L1)
                .code("0").code("1");
        fault("16 first, the rest well", well, 24, 0);
        // Three symbols of 2 bits, then the one before 3 times would be too many: the first one's length is 2.
        Bits second = new Bits().block(true, 2).tables(257, 1, THREE_BITS).code("010").code(L16).number(0, 2)
                .code(L18).number(127, 7).code(L18).number(252 - 138 - 11, 7).code(L0).code(L1);
        fault("16 second, no code left for the end", second, 24, 0);
        second = new Bits().block(true, 2).tables(257, 1, THREE_BITS).code("011").code(L16).number(3, 2)
                .code(L18).number(127, 7).code(L18).number(249 - 138 - 11, 7).code("011").code(L1);
        sound("16 second", second.code("000").code("110").code("111"), "\0\6");
    }

    /** "the codes of lengths are not complete" (24). */
    private static void completeLengthCodes() {
        int[][] rows = {{}, {1}, {2}, {7}, {1, 1}, {1, 2}, {1, 1, 7}, {1, 2, 2}, {2, 2, 2}, {2, 2, 2, 2}, {2, 2, 2, 2, 7},
            {1, 2, 3, 4, 5, 6, 7}, {1, 2, 3, 4, 5, 6, 7, 7}, {1, 2, 3, 4, 5, 6, 7, 7, 7}, {1, 2, 3, 4, 5, 6, 6},
            {7, 7, 6, 5, 4, 3, 2, 1}};
        boolean[] complete = {false, false, false, false, true, false, false, true, false, true, false, false, true, false,
            true, true};
        // 0, 1, 18 and others: with the first three alone the row can be told.
        int[] symbols = {1, 18, 0, 2, 3, 4, 5, 6, 7};
        for (int i = 0; i < rows.length; i++) {
            int[] pairs = new int[2 * rows[i].length];
            for (int j = 0; j < rows[i].length; j++) {
                pairs[2 * j] = symbols[j];
                pairs[2 * j + 1] = rows[i][j];
            }
            Bits bits = new Bits().block(true, 2).tables(257, 1, pairs);
            if (complete[i]) {
                // Complete: so far there is nothing but a bit that lacks.
                fault("complete " + Arrays.toString(rows[i]), bits, 20, bits.length());
            } else {
                fault("not complete " + Arrays.toString(rows[i]), bits, 24, 0);
            }
        }
        // Codes of 7 bits in use: 1 has one of them.
        Bits bits = new Bits().block(true, 2).tables(257, 1, 18, 1, 2, 2, 3, 3, 4, 4, 5, 5, 6, 6, 0, 7, 1, 7);
        bits.code("0").number(97 - 11, 7).code("1111111").code("0").number(127, 7).code("0").number(20 - 11, 7)
                .code("1111111").code("1111110").code("0").code("1");
        sound("codes of 7 bits", bits, "a");
    }

    private static void told(String what, int[] symbols, int[] distances, boolean good) {
        Tables tables = new Tables(symbols, distances);
        Bits bits = tables.head(shifted(4), true);
        if (good) {
            sound(what, bits.code(tables.symbol(256)).done(), then(4, ""));
        } else {
            fault(what, bits.code("0".repeat(40)), 24, place(shifted(4)));
        }
    }

    /** "symbol 256 has none" (24). */
    private static void symbol256() {
        int[] one = {1};
        told("255 and 256", Tables.lengths(257, 255, 1, 256, 1), one, true);
        told("255 and 254", Tables.lengths(257, 255, 1, 254, 1), one, false);
        told("255 and 257", Tables.lengths(258, 255, 1, 257, 1), one, false);
        told("256 and 257", Tables.lengths(258, 256, 1, 257, 1), one, true);
        Bits by18 = new Bits().block(true, 2).tables(257, 1, THREE_BITS).code(L18).number(97 - 11, 7).code(L1).code(L1)
                .code(L18).number(127, 7).code(L18).number(20 - 11, 7).code(L1).code("0".repeat(30));
        fault("256 has none by 18", by18, 24, 0);
        // What one call was refused for is no fault of the next one.
        ArchiveShelf shelf = new ArchiveShelf();
        Shelves.feed(shelf, by18.done());
        DUE.same("refused", shelf.unpack(), -1);
        Shelves.feed(shelf, upToDistances(1).code(L1).code("0").code("1").done());
        DUE.same("then sound", shelf.unpack(), 1);
    }

    /** "those of symbols are not complete" (24). */
    private static void completeSymbols() {
        int[] one = {1};
        told("256 alone, 1", Tables.lengths(257, 256, 1), one, false);
        told("256 alone, 15", Tables.lengths(257, 256, 15), one, false);
        told("1 2", Tables.lengths(257, 0, 1, 256, 2), one, false);
        told("1 2 2", Tables.lengths(257, 0, 1, 1, 2, 256, 2), one, true);
        told("1 1 2", Tables.lengths(257, 0, 1, 1, 1, 256, 2), one, false);
        told("1 1 1", Tables.lengths(257, 0, 1, 1, 1, 256, 1), one, false);
        int[] long15 = new int[257];
        for (int i = 0; i < 14; i++) {
            long15[i] = i + 1;
        }
        long15[256] = 15;
        told("less by one of 15", long15, one, false);
        long15[100] = 15;
        told("1 .. 15 and 15", long15, one, true);
        long15[101] = 15;
        told("more by one of 15", long15, one, false);
        int[] eights = new int[257];
        Arrays.fill(eights, 8);
        told("257 of 8", eights, one, false);
        eights[77] = 0;
        told("256 of 8", eights, one, true);
        eights[78] = 0;
        told("255 of 8", eights, one, false);
        int[] nines = new int[286];
        Arrays.fill(nines, 8);
        for (int i = 226; i < 286; i++) {
            nines[i] = 9;
        }
        told("226 of 8 and 60 of 9", nines, one, true);
        nines[0] = 9;
        told("one of 9 for one of 8", nines, one, false);
    }

    /** "those of distances are not, but none at all, or just one of length 1" (24). */
    private static void completeDistances() {
        int[] symbols = Tables.lengths(257, 'a', 1, 256, 1);
        told("none of 1", symbols, new int[1], true);
        told("none of 30", symbols, new int[30], true);
        for (int length = 1; length <= 15; length++) {
            told("one of length " + length, symbols, Tables.lengths(1, 0, length), length == 1);
            told("the last one of length " + length, symbols, Tables.lengths(30, 29, length), length == 1);
        }
        told("1 1", symbols, new int[] {1, 1}, true);
        told("1 2", symbols, new int[] {1, 2}, false);
        told("2 2", symbols, new int[] {2, 2}, false);
        told("1 1 1", symbols, new int[] {1, 1, 1}, false);
        told("1 1 15", symbols, new int[] {1, 1, 15}, false);
        told("1 2 2", symbols, new int[] {1, 2, 2}, true);
        told("1 2 3", symbols, new int[] {1, 2, 3}, false);
        told("2 2 2", symbols, new int[] {2, 2, 2}, false);
        told("2 2 2 2", symbols, new int[] {2, 2, 2, 2}, true);
        told("2 2 2 2 2", symbols, new int[] {2, 2, 2, 2, 2}, false);
        int[] row = {1, 2, 3, 4, 5, 6, 7, 8, 9, 10, 11, 12, 13, 14, 15, 0, 0};
        told("1 .. 15", symbols, row, false);
        row[16] = 15;
        told("1 .. 15 and 15", symbols, row, true);
        row[15] = 15;
        told("1 .. 15, 15 and 15", symbols, row, false);
    }

    /** "25: bits with which no code begins (as soon as there is one)". */
    private static void noCodeBegins() {
        int[] symbols = Tables.lengths(258, 'a', 1, 256, 2, 257, 2);
        int[][] distances = {{0}, {1}, {0, 1}, new int[30]};
        for (int[] row : distances) {
            Tables tables = new Tables(symbols, row);
            // So many bytes before it that the one bit of the distance is the last of a byte, or the next one's first.
            Bits before = tables.head();
            while ((before.bitCount() + 3) % 8 != 0) {
                before.code(tables.symbol('a'));
            }
            int symbol = place(before);
            Bits bits = before.code(tables.symbol(257)).code("1");
            fault("1, the last bit of all", bits, 25, symbol);
            before = tables.head();
            while ((before.bitCount() + 2) % 8 != 0) {
                before.code(tables.symbol('a'));
            }
            bits = before.code(tables.symbol(257));
            fault("that bit lacks", bits, 20, bits.length());
            before = tables.head();
            int letters = 0;
            // Two at least, so that a distance of 2 is there.
            while (letters < 2 || before.bitCount() % 8 != 0) {
                before.code(tables.symbol('a'));
                letters++;
            }
            symbol = place(before);
            bits = before.code(tables.symbol(257)).code("0").code(tables.symbol(256));
            if (Arrays.stream(row).sum() > 0) {
                sound("0 is a code", bits, "a".repeat(letters + 3));
            } else {
                fault("0, and no code at all", bits, 25, symbol);
            }
        }
    }

    /** "257 .. 285 a length: 3 .. 10 for 257 .. 264; then .. four symbols each with 1, 2, 3, 4, 5 bits more; 285: 258". */
    private static void lengths() {
        int[] least = {3, 4, 5, 6, 7, 8, 9, 10, 11, 13, 15, 17, 19, 23, 27, 31, 35, 43, 51, 59, 67, 83, 99, 115, 131, 163,
            195, 227, 258};
        for (int i = 0; i < least.length; i++) {
            int bits = i < 8 || i == 28 ? 0 : i / 4 - 1;
            for (int more : new int[] {0, (1 << bits) - 1}) {
                Bits row = new Bits().block(true, 1).fixed('x').fixed(257 + i).number(more, bits).far(0).fixed('y').fixed(256);
                sound("length of " + (257 + i) + " and " + more, row, "x".repeat(least[i] + more + 1) + "y");
            }
        }
    }

    /** "0 .. 3: 1 .. 4; then two each with 1, 2, .. 13 bits more, likewise". */
    private static void distances() {
        int[] least = {1, 2, 3, 4, 5, 7, 9, 13, 17, 25, 33, 49, 65, 97, 129, 193, 257, 385, 513, 769, 1025, 1537, 2049, 3073,
            4097, 6145, 8193, 12289, 16385, 24577};
        byte[] start = new byte[509];
        for (int i = 0; i < start.length; i++) {
            start[i] = (byte) (i * i * 31 / 7 + i);
        }
        for (int far = 0; far < 30; far++) {
            int bits = far < 4 ? 0 : far / 2 - 1;
            for (int more : new int[] {0, (1 << bits) - 1}) {
                int distance = least[far] + more;
                byte[] before = Shelves.join(stored(new Bits(), false, 509).done(), start);
                byte[] copy = new Bits().block(true, 1).fixed(257).far(far).number(more, bits).fixed(256).done();
                if (distance > 509) {
                    fault("distance " + distance, Shelves.join(before, copy), 26, 5 + 509);
                } else {
                    byte[] want = Arrays.copyOf(start, 512);
                    for (int i = 509; i < 512; i++) {
                        want[i] = want[i - distance];
                    }
                    sound("distance " + distance, Shelves.join(before, copy), want);
                }
            }
        }
    }

    /** "26: before the first byte." */
    private static void beforeTheFirstByte() {
        for (int n = 0; n <= 5; n++) {
            int[] symbols = {0, 1, 2, 3, 4, 4};
            int[] bits = {0, 0, 0, 0, 1, 1};
            for (int distance = 1; distance <= 6; distance++) {
                Bits row = new Bits().block(true, 1);
                for (int i = 0; i < n; i++) {
                    row.fixed('a' + i);
                }
                int place = place(row);
                row.fixed(257).far(symbols[distance - 1]).number(distance - 5, bits[distance - 1]).fixed(256);
                if (distance > n) {
                    fault(distance + " of " + n, row, 26, place);
                } else {
                    String all = "abcde".substring(0, n);
                    for (int i = 0; i < 3; i++) {
                        all += all.charAt(all.length() - distance);
                    }
                    sound(distance + " of " + n, row, all);
                }
            }
        }
        // A byte of an earlier block counts; a byte of an earlier call does not.
        sound("an earlier block's", end(new Bits().block(false, 1).fixed('z').fixed(256).block(false, 1).fixed(257).far(0)
                .fixed(256)), "zzzz");
        ArchiveShelf shelf = new ArchiveShelf();
        Shelves.feed(shelf, new Bits().block(true, 1).fixed('z').fixed(256).done());
        DUE.same("one byte", shelf.unpack(), 1);
        Shelves.feed(shelf, new Bits().block(true, 1).fixed(257).far(0).fixed(256).done());
        DUE.same("an earlier call's", shelf.unpack(), -1);
        DUE.same("an earlier call's", shelf.fault(0), 26);
    }

    private static byte[] zeros(int n) {
        return Shelves.join(stored(new Bits(), false, n).done(), new byte[n]);
    }

    /** "23: a byte more than there may be": 512 of unpack(). */
    private static void aByteMore() {
        for (int n = 508; n <= 512; n++) {
            byte[] before = zeros(n);
            byte[] literal = new Bits().block(true, 1).fixed(0).fixed(256).done();
            byte[] three = new Bits().block(true, 1).fixed(257).far(0).fixed(256).done();
            byte[] none = new Bits().block(true, 1).fixed(256).done();
            sound(n + " and none", Shelves.join(before, none), new byte[n]);
            if (n + 1 <= 512) {
                sound(n + " and 1", Shelves.join(before, literal), new byte[n + 1]);
            } else {
                fault(n + " and 1", Shelves.join(before, literal), 23, 5 + n);
            }
            if (n + 3 <= 512) {
                sound(n + " and 3", Shelves.join(before, three), new byte[n + 3]);
            } else {
                fault(n + " and 3", Shelves.join(before, three), 23, 5 + n);
            }
            byte[] more = Shelves.join(stored(new Bits(), true, 2).done(), new byte[2]);
            if (n + 2 <= 512) {
                sound(n + " and 2 of sort 0", Shelves.join(before, more), new byte[n + 2]);
            } else {
                fault(n + " and 2 of sort 0", Shelves.join(before, more), 23, 5 + n + 5 + 512 - n);
            }
        }
        for (int n : new int[] {253, 254, 255}) {
            byte[] most = Shelves.join(zeros(n), new Bits().block(true, 1).fixed(285).far(0).fixed(256).done());
            if (n + 258 <= 512) {
                sound(n + " and 258", most, new byte[n + 258]);
            } else {
                fault(n + " and 258", most, 23, 5 + n);
            }
        }
        // Named first: 25, then 26, then 23.
        fault("25 and 23", Shelves.join(zeros(512), new Bits().block(true, 1).fixed(257).far(30).done()), 25, 517);
        fault("26 and 23", Shelves.join(zeros(512), new Bits().block(true, 1).fixed(257).far(18).number(0, 8).done()), 26, 517);
        fault("23 alone", Shelves.join(zeros(512), new Bits().block(true, 1).fixed(257).far(17).number(127, 7).done()), 23,
                517);
    }

    /** "25, 26, 23, at the byte with the first bit of the symbol (of a length, for all that belongs to it)". */
    private static void placesOfSymbols() {
        for (int offset = 0; offset < 8; offset++) {
            // The symbol begins three bits behind.
            Bits before = shifted(offset).block(true, 1);
            int place = place(before);
            int n = bytesBefore(offset);
            fault("symbol 286", shifted(offset).block(true, 1).fixed(286), 25, place);
            fault("symbol 287", shifted(offset).block(true, 1).fixed(287), 25, place);
            fault("distance 30", shifted(offset).block(true, 1).fixed(284).number(31, 5).far(30), 25, place);
            fault("distance 31", shifted(offset).block(true, 1).fixed(257).far(31), 25, place);
            fault("26", shifted(offset).block(true, 1).fixed(284).number(0, 5).far(29).number(8191, 13), 26, place);
            Bits full = stored(shifted(offset), false, 512 - n);
            full.bytes(new int[512 - n]);
            for (int i = 0; i < offset; i++) {
                full.block(false, 1).fixed(256);
            }
            full.block(true, 1);
            int then = place(full);
            fault("23 of a byte", full.fixed(255), 23, then);
        }
    }

    /** "A fault is told when all that it is told by has been taken; a bit that lacks before that is 20". */
    private static void whenAllHasBeenTaken() {
        // H's bits end with the first byte.
        for (int h : new int[] {286, 287, 288}) {
            fault("H " + h, new Bits().block(true, 2).number(h - 257, 5), h <= 286 ? 20 : 24, h <= 286 ? 1 : 0);
        }
        // K's bits end with a byte.
        for (int k : new int[] {30, 31, 32}) {
            Bits bits = shifted(3).block(true, 2).number(0, 5).number(k - 1, 5);
            DUE.same("a byte's end", bits.bitCount() % 8, 0);
            fault("K " + k, bits, k <= 30 ? 20 : 24, k <= 30 ? bits.length() : place(shifted(3)));
        }
        // The last of five lengths ends with a byte, or one bit behind it.
        Bits codes = new Bits().block(true, 2).number(0, 5).number(0, 5).number(1, 4).number(0, 12).number(1, 3);
        fault("codes of lengths", codes, 24, 0);
        Bits late = shifted(1).block(true, 2).number(0, 5).number(0, 5).number(1, 4).number(0, 12).number(1, 3);
        fault("codes of lengths but for a bit", late.cut(), 20, late.cut().length);
        // The lengths of symbols end with a byte; one of K lacks.
        for (int length : new int[] {1, 2, 0}) {
            Tables tables = new Tables(Tables.lengths(257, 'a', 1, 256, length), new int[0]);
            Bits bits = shifted(2).block(true, 2).tables(257, 1, fours());
            for (int i = 0; i < 257; i++) {
                bits.code(i == 'a' ? "0001" : i == 256 ? binary(length) : "0000");
            }
            DUE.same("a byte's end", bits.bitCount() % 8, 0);
            DUE.same("that code", tables.symbol(256).length(), length);
            fault("symbols, 256 has " + length, bits, length == 1 ? 20 : 24,
                    length == 1 ? bits.length() : place(shifted(2)));
        }
        // All lengths end with a byte.
        for (int length : new int[] {0, 1, 2}) {
            Bits bits = new Tables(Tables.lengths(257, 'a', 1, 256, 1), new int[] {length}).head(shifted(6), true);
            DUE.same("a byte's end", bits.bitCount() % 8, 0);
            fault("distances, one of " + length, bits, length == 2 ? 24 : 20,
                    length == 2 ? place(shifted(6)) : bits.length());
        }
        symbolsThatLack();
    }

    private static int[] fours() {
        int[] pairs = new int[32];
        for (int i = 0; i < 16; i++) {
            pairs[2 * i] = i;
            pairs[2 * i + 1] = 4;
        }
        return pairs;
    }

    private static String binary(int length) {
        return length == 0 ? "0000" : length == 1 ? "0001" : "0010";
    }

    /** The symbol's bits, and all but the last one of them, end with the tape. */
    private static void symbolsThatLack() {
        Bits[] whole = {shifted(5).block(true, 1).fixed(286), shifted(0).block(true, 1).fixed(257).far(30).number(0, 1),
            shifted(1).block(true, 1).fixed(257).far(30), shifted(0).block(true, 1).fixed(257).far(4).number(1, 1)};
        int[] faults = {25, 25, 25, 26};
        for (int i = 0; i < whole.length; i++) {
            int n = bytesBefore(i == 0 ? 5 : i == 2 ? 1 : 0);
            int begin = place(i == 0 ? shifted(5).block(true, 1) : i == 2 ? shifted(1).block(true, 1)
                    : shifted(0).block(true, 1));
            DUE.same("a byte's end", whole[i].bitCount() % 8, 0);
            // A distance of 6 or 7 is there, if there are so many bytes.
            boolean there = i == 3 && n >= 6;
            fault("all of it " + i, whole[i], there ? 20 : faults[i], there ? whole[i].length() : begin);
            byte[] less = Arrays.copyOf(whole[i].done(), whole[i].length() - 1);
            fault("not all of it " + i, less, 20, less.length);
        }
        byte[] full = zeros(512);
        Bits literal = new Bits().block(true, 1).fixed(0);
        fault("23, its last bits lack", Shelves.join(full, Arrays.copyOf(literal.done(), 1)), 20, 518);
        fault("23", Shelves.join(full, literal.done()), 23, 517);
        Bits length = new Bits().block(true, 1).fixed(257).far(4).number(0, 1);
        DUE.same("a byte's end", length.bitCount() % 8, 0);
        fault("23 of a length", Shelves.join(full, length.done()), 23, 517);
        fault("23 of a length, its distance lacks", Shelves.join(full, Arrays.copyOf(length.done(), 1)), 20, 518);
        byte[] stored = Shelves.join(full, stored(new Bits(), true, 1).done());
        fault("23 in sort 0, the byte lacks", stored, 20, 517 + 5);
        fault("23 in sort 0", Shelves.join(stored, new byte[1]), 23, 517 + 5);
    }

    /** "a bit that lacks before that is 20": the bits that are left are taken for nothing else. */
    private static void bitsThatAreLeft() {
        // Behind a call that took 16 for the bit 1, so that it could be taken for that again.
        for (int there = 0; there < 14; there++) {
            ArchiveShelf shelf = new ArchiveShelf();
            Shelves.feed(shelf, new Bits().block(true, 2).tables(257, 1, 0, 1, 16, 1).code("1").done());
            DUE.same("16 with none before", shelf.unpack(), -1);
            DUE.same("16 with none before", shelf.fault(0), 24);
            // Of H, K and the third number so many bits are there, up to a byte's end: what is whole is 0, the rest 1.
            int whole = there < 5 ? 0 : there < 10 ? 5 : 10;
            Bits bits = shifted(Math.floorMod(-3 - there, 8)).block(true, 2).code("0".repeat(whole))
                    .code("1".repeat(there - whole));
            Shelves.feed(shelf, bits.done());
            DUE.same("a byte's end", bits.bitCount() % 8, 0);
            DUE.same("bits that are there: " + there, shelf.unpack(), -1);
            DUE.same("bits that are there: " + there, shelf.fault(0), 20);
            DUE.same("bits that are there: " + there, shelf.fault(1), bits.length());
        }
        // 16 is 0 and 18 is 1: 18's number lacks, and what is there of it is 0.
        Bits repeat = new Bits().block(true, 2).tables(257, 1, 16, 1, 18, 1).code("1");
        fault("18's number lacks", repeat, 20, repeat.length());
        // The end is 0: of a length's bits, and of its distance's, those that are there are 0.
        Tables tables = new Tables(Tables.lengths(285, 'a', 2, 256, 1, 284, 2), Tables.lengths(29, 28, 1));
        Bits length = tables.head().code(tables.symbol('a')).code(tables.symbol(284));
        DUE.same("bits are left", length.bitCount() % 8 > 3 ? 1 : 0, 1);
        fault("a length's bits lack", length, 20, length.length());
        Bits distance = tables.head().code(tables.symbol('a')).code(tables.symbol(284)).number(0, 5)
                .code(tables.distance(28));
        fault("a distance's bits lack", distance, 20, distance.length());
    }

    /** "27: behind the last block there are bytes left: at the first of these (the rest of bits .. does not matter)." */
    private static void bytesLeft() {
        for (int offset = 0; offset < 8; offset++) {
            // An empty block of sort 1 has ten bits.
            Bits bits = end(shifted((offset + 6) % 8));
            int rest = Math.floorMod(-bits.bitCount(), 8);
            byte[] want = then((offset + 6) % 8, "");
            int length = bits.length();
            bits.number(255, rest);
            sound("rest of " + rest, bits.done(), want);
            for (int left : new int[] {1, 2, 300}) {
                fault(left + " left behind a rest of " + rest, Shelves.join(bits.done(), new byte[left]), 27, length);
            }
        }
        sound("none left behind sort 0", stored(new Bits(), true, 1).bytes(9).done(), Shelves.row(9));
        fault("one left behind sort 0", stored(new Bits(), true, 1).bytes(9, 9), 27, 6);
        fault("more than 512 left", Shelves.join(new Bits().block(true, 1).fixed(256).done(), new byte[19998]), 27, 2);
    }

    private static void packed(String text, Bits want) {
        ArchiveShelf shelf = new ArchiveShelf();
        Shelves.type(shelf, text);
        byte[] row = want.fixed(256).done();
        DUE.same("packed <" + text + ">", shelf.pack(), row.length);
        DUE.same("packed <" + text + ">", Shelves.tape(shelf), row);
    }

    private static Bits letters(String text) {
        Bits bits = new Bits().block(true, 1);
        for (int i = 0; i < text.length(); i++) {
            bits.fixed(text.charAt(i));
        }
        return bits;
    }

    /** "PACKED are bytes so". */
    private static void packed() {
        packed("", letters(""));
        // "3 .. 258".
        packed("ab", letters("ab"));
        packed("ab-ab", letters("ab-ab"));
        packed("abc-abc", letters("abc-").fixed(257).far(3));
        packed("abcd-abcd", letters("abcd-").fixed(258).far(4).number(0, 1));
        packed("x".repeat(3), letters("xxx"));
        packed("x".repeat(4), letters("x").fixed(257).far(0));
        packed("x".repeat(258), letters("x").fixed(284).number(30, 5).far(0));
        packed("x".repeat(259), letters("x").fixed(285).far(0));
        packed("x".repeat(260), letters("x").fixed(285).far(0).fixed('x'));
        packed("x".repeat(261), letters("x").fixed(285).far(0).fixed('x').fixed('x'));
        packed("x".repeat(262), letters("x").fixed(285).far(0).fixed(257).far(0));
        packed("x".repeat(512), letters("x").fixed(285).far(0).fixed(284).number(26, 5).far(0));
        // Lengths of the symbols 279, 280 and 281.
        packed("x".repeat(100), letters("x").fixed(279).number(0, 4).far(0));
        packed("x".repeat(115), letters("x").fixed(279).number(15, 4).far(0));
        packed("x".repeat(116), letters("x").fixed(280).number(0, 4).far(0));
        packed("x".repeat(131), letters("x").fixed(280).number(15, 4).far(0));
        packed("x".repeat(132), letters("x").fixed(281).number(0, 5).far(0));
        // Bytes 0: there are none before the first, and none behind the last.
        packed("\0", letters("\0"));
        packed("\0\0\0", letters("\0\0\0"));
        packed("\0\0\0\0", letters("\0").fixed(257).far(0));
        packed("\0\0\0a\0\0", letters("\0\0\0a\0\0"));
        // "(of several at the nearest one)": 4, not 8.
        packed("abc-abc+abc", letters("abc-").fixed(257).far(3).fixed('+').fixed(257).far(3));
        packed("abc-abc+abc*", letters("abc-").fixed(257).far(3).fixed('+').fixed(257).far(3).fixed('*'));
        // "the longest row": 9 bytes before it there are four, 4 before it there are three.
        packed("abcd-abc+abcd", letters("abcd-").fixed(257).far(4).number(0, 1).fixed('+').fixed(258).far(6).number(0, 2));
        // "from the left, at each place": abc is taken, though bcdef would be longer from the next place on.
        packed("abc-bcdef-abcdef", letters("abc-bcdef-").fixed(257).far(6).number(1, 2).fixed(257).far(5).number(0, 1));
        // "that begins at a place before it, too": it may go on into what it makes.
        packed("abababab", letters("ab").fixed(260).far(1));
        // The first place is as good as any: 0 1 2 stands there alone.
        byte[] far = new byte[512];
        for (int i = 0; i < 512; i++) {
            far[i] = (byte) (i < 255 ? i : i < 509 ? 3 + i * 5 % 251 : i - 509);
        }
        ArchiveShelf shelf = new ArchiveShelf();
        Shelves.type(shelf, far);
        DUE.same("509 before", shelf.pack(), PlainPacker.packed(far).length);
        DUE.same("509 before", Shelves.tape(shelf), PlainPacker.packed(far));
        // "a byte, where there is none": 143 has 8 bits, 144 has 9. "The rest of bits is 0."
        packed("\u008f", letters("\u008f"));
        packed("\u0090", letters("\u0090"));
        packed("\u00ff\u0000", letters("\u00ff\u0000"));
    }
}
