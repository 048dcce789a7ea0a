import java.util.Arrays;
import java.util.Random;
import java.util.zip.DataFormatException;
import java.util.zip.Deflater;
import java.util.zip.Inflater;

/** Promises 13 and 15: packed bytes, and each fault of part 3 with its place. */
public final class UnpackTest {
    private static final Due DUE = new Due();

    public static void main(String[] args) {
        blocks();
        stored();
        fixedSymbols();
        lengthsAndDistances();
        copies();
        tooMany();
        lengthCodes();
        rowsOfLengths();
        longCodes();
        mostLengths();
        distancesCodes();
        leftOver();
        cuts();
        others();
        changed();
        DUE.close();
    }

    private static void sound(String what, byte[] tape, byte[] want) {
        ArchiveShelf shelf = new ArchiveShelf();
        // A fault to be forgotten, and a buffer to be lost.
        shelf.read(0);
        Shelves.type(shelf, "before");
        Shelves.feed(shelf, tape);
        DUE.same(what + ": unpack", shelf.unpack(), want.length);
        DUE.same(what + ": buffer", Shelves.buffer(shelf), want);
        DUE.same(what + ": fault", shelf.fault(0), 0);
        DUE.same(what + ": place", shelf.fault(1), -1);
        DUE.same(what + ": tape", Shelves.tape(shelf), tape);
    }

    private static void sound(String what, Bits bits, String want) {
        sound(what, bits.done(), Shelves.bytes(want));
    }

    private static void fault(String what, byte[] tape, int number, int place) {
        ArchiveShelf shelf = new ArchiveShelf();
        Shelves.type(shelf, "before");
        Shelves.feed(shelf, tape);
        DUE.same(what + ": unpack", shelf.unpack(), -1);
        DUE.same(what + ": fault", shelf.fault(0), number);
        DUE.same(what + ": place", shelf.fault(1), place);
        DUE.same(what + ": buffer", Shelves.buffer(shelf), Shelves.bytes("before"));
        DUE.same(what + ": tape", Shelves.tape(shelf), tape);
    }

    /** A block with one byte, 200, and empty blocks behind it: of 19 bits, 29, 39 .. */
    private static Bits before(int emptyBlocks) {
        Bits bits = new Bits().block(false, 1).fixed(200).fixed(256);
        for (int i = 0; i < emptyBlocks; i++) {
            bits.block(false, 1).fixed(256);
        }
        return bits;
    }

    private static void blocks() {
        fault("nothing", new byte[0], 20, 0);
        fault("sort 3", Shelves.row(7), 21, 0);
        fault("sort 3, more bytes", Shelves.row(6, 1, 2), 21, 0);
        fault("a block lacks", before(0).done(), 20, 3);
        fault("sort 3 behind", before(0).block(true, 3).done(), 21, 2);
        fault("sort 3 over two bytes", before(2).block(true, 3).done(), 21, 4);
        fault("its sort lacks", before(2).number(1, 1).done(), 20, 5);
        sound("two blocks", new Bits().block(false, 1).fixed('a').fixed(256).block(true, 1).fixed('b').fixed(256),
                "ab");
    }

    private static void stored() {
        sound("sort 0", new Bits().block(true, 0).rest().bytes(3, 0, 252, 255, 'x', 'y', 'z'), "xyz");
        sound("sort 0 of none", new Bits().block(true, 0).rest().bytes(0, 0, 255, 255), "");
        sound("rest that is not 0", new Bits().block(true, 0).number(31, 5).bytes(1, 0, 254, 255, 'x'), "x");
        sound("sort 0 behind", new Bits().block(false, 1).fixed('a').fixed(256).block(true, 0).rest()
                .bytes(1, 0, 254, 255, 'b'), "ab");
        sound("no rest to go", before(1).block(true, 0).bytes(1, 0, 254, 255, 'b').done(), Shelves.row(200, 'b'));
        fault("22", new Bits().block(true, 0).rest().bytes(1, 0, 254, 254, 'x').done(), 22, 0);
        fault("22 low", new Bits().block(true, 0).rest().bytes(0, 1, 255, 255).done(), 22, 0);
        fault("22 behind", new Bits().block(false, 0).rest().bytes(0, 0, 255, 255).block(true, 0).rest()
                .bytes(1, 0, 1, 0, 'x').done(), 22, 5);
        fault("22 not all taken", new Bits().block(true, 0).rest().bytes(1, 0, 1).done(), 20, 4);
        fault("length lacks", new Bits().block(true, 0).rest().bytes(1).done(), 20, 2);
        fault("no length", new Bits().block(true, 0).done(), 20, 1);
        fault("bytes lack", new Bits().block(true, 0).rest().bytes(3, 0, 252, 255, 'x', 'y').done(), 20, 7);
    }

    private static void fixedSymbols() {
        Bits bits = new Bits().block(true, 1);
        byte[] want = new byte[256];
        for (int i = 0; i < 256; i++) {
            bits.fixed(i);
            want[i] = (byte) i;
        }
        sound("all bytes", bits.fixed(256).done(), want);
        fault("symbol 286", new Bits().block(true, 1).fixed('a').fixed(286).rest().bytes(0).done(), 25, 1);
        fault("symbol 287", new Bits().block(true, 1).fixed(287).rest().done(), 25, 0);
        fault("distance 30", new Bits().block(true, 1).fixed('a').fixed(257).far(30).done(), 25, 1);
        fault("distance 31", new Bits().block(true, 1).fixed('a').fixed(265).number(1, 1).far(31).done(), 25, 1);
    }

    private static void lengthsAndDistances() {
        int length = 3;
        for (int symbol = 257; symbol <= 284; symbol++) {
            int bits = symbol < 265 ? 0 : (symbol - 261) / 4;
            for (int more = 0; more < 1 << bits; more++) {
                Bits row = new Bits().block(true, 1).fixed('a').fixed(symbol).number(more, bits).far(0).fixed(256);
                sound("length " + length, row, "a".repeat(length + 1));
                length++;
            }
        }
        DUE.same("lengths", length, 259);
        sound("length 285", new Bits().block(true, 1).fixed('a').fixed(285).far(0).fixed(256), "a".repeat(259));

        byte[] start = new byte[500];
        new Random(5).nextBytes(start);
        int distance = 1;
        for (int symbol = 0; distance <= 500; symbol++) {
            int bits = symbol < 4 ? 0 : symbol / 2 - 1;
            for (int more = 0; more < 1 << bits && distance <= 500; more++) {
                Bits row = new Bits().block(false, 0).rest().bytes(500 & 255, 1, 255 - (500 & 255), 254);
                for (byte b : start) {
                    row.bytes(b & 255);
                }
                row.block(true, 1).fixed(257).far(symbol).number(more, bits).fixed(256);
                byte[] want = Arrays.copyOf(start, 503);
                for (int i = 0; i < 3; i++) {
                    want[500 + i] = want[500 + i - distance];
                }
                sound("distance " + distance, row.done(), want);
                distance++;
            }
        }
    }

    private static void copies() {
        sound("over itself", new Bits().block(true, 1).fixed('a').fixed('b').fixed(259).far(1).fixed('c').fixed(256),
                "abababac");
        fault("26", new Bits().block(true, 1).fixed('a').fixed('a').fixed(257).far(2).done(), 26, 2);
        fault("26 with none", new Bits().block(true, 1).fixed(257).far(0).done(), 26, 0);
        fault("26 far", new Bits().block(true, 1).fixed('a').fixed(257).far(29).number(8191, 13).done(), 26, 1);
        fault("26, its bits lack", new Bits().block(true, 1).fixed('a').fixed(257).far(29).number(1, 11).cut(), 20, 4);
        sound("across blocks", new Bits().block(false, 1).fixed('a').fixed('b').fixed(256).block(true, 1).fixed(257)
                .far(1).fixed(256), "ababa");
    }

    private static Bits filled(int n) {
        Bits bits = new Bits().block(false, 0).rest().bytes(n & 255, n >> 8, 255 - (n & 255), 255 - (n >> 8));
        for (int i = 0; i < n; i++) {
            bits.bytes(i & 255);
        }
        return bits;
    }

    private static void tooMany() {
        fault("23 in sort 0", filled(513).block(true, 1).fixed(256).done(), 23, 5 + 512);
        fault("23 in sort 0, behind", filled(512).block(true, 0).rest().bytes(2, 0, 253, 255, 1, 2).done(), 23,
                517 + 5);
        fault("that byte lacks", filled(512).block(true, 0).rest().bytes(2, 0, 253, 255).done(), 20, 517 + 5);
        fault("23 of a byte", filled(512).block(true, 1).fixed(1).done(), 23, 517);
        fault("23 of a later byte", filled(510).block(true, 1).fixed(1).fixed(1).fixed(1).done(), 23, 515 + 2);
        fault("23 of a length", filled(510).block(true, 1).fixed(257).far(0).done(), 23, 515);
        fault("26 before 23", filled(510).block(true, 1).fixed(257).far(18).number(7, 8).done(), 26, 515);
        fault("25 before 23", filled(510).block(true, 1).fixed(257).far(30).done(), 25, 515);
        fault("23, bits of the distance lack", filled(510).block(true, 1).fixed(285).far(18).done(), 20, 517);
        byte[] full = new byte[512];
        for (int i = 0; i < 512; i++) {
            full[i] = (byte) (i < 509 ? i : 508);
        }
        sound("512", filled(509).block(true, 1).fixed(257).far(0).fixed(256).done(), full);
        fault("end of a full block lacks", filled(512).block(true, 1).done(), 20, 518);
    }

    private static void lengthCodes() {
        for (int h : new int[] {287, 288}) {
            fault("H " + h, new Bits().block(true, 2).tables(h, 1).done(), 24, 0);
            fault("H alone is enough", new Bits().block(true, 2).number(h - 257, 5).done(), 24, 0);
        }
        for (int k : new int[] {31, 32}) {
            fault("K " + k, new Bits().block(true, 2).tables(257, k).done(), 24, 0);
            fault("K alone is enough", new Bits().block(true, 2).number(0, 5).number(k - 1, 5).rest().done(), 24, 0);
        }
        fault("H lacks", new Bits().block(false, 1).fixed(256).block(true, 2).number(31, 3).done(), 20, 2);
        fault("no code of lengths", new Bits().block(true, 2).tables(257, 1).done(), 24, 0);
        fault("one code of lengths", new Bits().block(true, 2).tables(257, 1, 8, 1).done(), 24, 0);
        fault("too few", new Bits().block(true, 2).tables(257, 1, 8, 1, 9, 2).done(), 24, 0);
        fault("too many", new Bits().block(true, 2).tables(257, 1, 8, 1, 9, 1, 0, 1).done(), 24, 0);
        fault("behind another block", new Bits().block(false, 1).fixed('a').fixed(256).block(true, 2)
                .tables(257, 1, 8, 1).done(), 24, 2);
        fault("lengths lack", new Bits().block(true, 2).number(0, 5).number(0, 5).number(15, 4).number(0, 23).done(),
                20, 5);
        // Only four lengths, of 16, 17, 18 and 0: the row is 138 times 0 and more of them.
        fault("four lengths", new Bits().block(true, 2).number(0, 5).number(0, 5).number(0, 4).number(0, 6)
                .number(1, 3).number(1, 3).code("1").number(127, 7).code("1").number(109, 7).done(), 24, 0);
    }

    private static final int[] THREE_BITS = {0, 3, 1, 3, 2, 3, 3, 3, 9, 3, 16, 3, 17, 3, 18, 3};
    private static final String L0 = "000";
    private static final String L1 = "001";
    private static final String L2 = "010";
    private static final String L3 = "011";
    private static final String L16 = "101";
    private static final String L17 = "110";
    private static final String L18 = "111";

    /** The head of a block up to the codes of lengths above: 74 bits. */
    private static Bits tables(int h, int k) {
        return new Bits().block(true, 2).tables(h, k, THREE_BITS);
    }

    /** So many lengths 0, 139 .. 276. */
    private static Bits zeros(Bits bits, int n) {
        return bits.code(L18).number(127, 7).code(L18).number(n - 138 - 11, 7);
    }

    /** Lengths of 257 symbols: a is 0, b is 10, the end 11. */
    private static Bits letters(int k) {
        return zeros(tables(257, k).code(L18).number(97 - 11, 7).code(L1).code(L2), 157).code(L2);
    }

    /** Lengths of 258 symbols: a is 0, b is 10, the end 110, a length of 3 is 111. */
    private static Bits withLength(int k) {
        return zeros(tables(258, k).code(L18).number(97 - 11, 7).code(L1).code(L2), 157).code(L3).code(L3);
    }

    private static void rowsOfLengths() {
        sound("sort 2", letters(1).code(L0).code("0").code("10").code("0").code("11"), "aba");
        sound("sort 2 with a length", withLength(1).code(L1).code("0").code("10").code("111").code("0").code("110"),
                "abbbb");
        sound("16 from symbols to distances", zeros(tables(257, 4).code(L18).number(97 - 11, 7).code(L2), 156).code(L2)
                .code(L16).number(0, 2).code(L16).number(0, 2).code("00").code("11"), "a");
        sound("17 of 3 and of 4", letters(8).code(L17).number(0, 3).code(L1).code(L17).number(1, 3).code("0").code("11"), "a");
        sound("16 up to K", letters(4).code(L16).number(1, 2).code("0").code("11"), "a");
        fault("16 with none before", tables(257, 1).code(L16).number(0, 2).code("0".repeat(99)).done(), 24, 0);
        Bits alone = before(0).block(true, 2).tables(257, 1, THREE_BITS).code(L16);
        DUE.same("that ends with a byte", alone.bitCount(), 96);
        fault("16 with none before, its number lacks", alone.done(), 24, 2);
        fault("16 beyond", zeros(tables(257, 2).code(L18).number(97 - 11, 7).code(L1), 158).code(L1).code(L16)
                .number(0, 2).code("0".repeat(99)).done(), 24, 0);
        fault("17 beyond", letters(2).code(L17).number(0, 3).code("0".repeat(99)).done(), 24, 0);
        fault("18 beyond", letters(10).code(L18).number(0, 7).code("0".repeat(99)).done(), 24, 0);
        fault("256 has none", zeros(tables(257, 1).code(L1).code(L1), 255).code(L0).done(), 24, 0);
        fault("256 has none, told alone", zeros(tables(257, 1).code(L1).code(L1), 254).code(L0).code(L0).done(), 24, 0);
        fault("symbols too few", zeros(tables(257, 1).code(L1), 255).code(L2).code(L1).done(), 24, 0);
        fault("symbols too many", zeros(tables(257, 1).code(L1).code(L1), 254).code(L2).code(L1).done(), 24, 0);
        fault("just the end", zeros(tables(257, 1), 256).code(L1).code(L1).code("0").done(), 24, 0);
        Bits short256 = zeros(before(0).block(true, 2).tables(257, 1, THREE_BITS).code(L1).code(L1), 255);
        DUE.same("a bit is left of the last byte", short256.bitCount(), 119);
        fault("256 has none, lengths of distances lack", short256.done(), 24, 2);
        fault("lengths of distances lack", letters(9).done(), 20, letters(9).length());

        ArchiveShelf shelf = new ArchiveShelf();
        Shelves.feed(shelf, zeros(tables(257, 1).code(L1).code(L1), 255).code(L0).done());
        DUE.same("refused", shelf.unpack(), -1);
        Shelves.feed(shelf, letters(1).code(L0).code("0").code("11").done());
        DUE.same("sound behind the refused", shelf.unpack(), 1);
    }

    /** Codes of 1, 2, 3 .. 15 bits and the end's of 15, too; each length is told by a code of 4 bits. */
    private static void longCodes() {
        int[] told = new int[32];
        for (int i = 1; i < 16; i++) {
            told[2 * i] = i;
            told[2 * i + 1] = 4;
        }
        told[0] = 18;
        told[1] = 4;
        // In the order of symbols 1 .. 15 are 0000 .. 1110, and 18 is 1111.
        Bits bits = new Bits().block(true, 2).tables(257, 1, told).code("1111").number(127, 7).code("1111")
                .number(240 - 138 - 11, 7);
        for (int i = 0; i < 15; i++) {
            bits.number(i >> 3, 1).number(i >> 2, 1).number(i >> 1, 1).number(i, 1);
        }
        bits.code("1110").code("1110").code("0000");
        fault("two of 15 too many", bits.done(), 24, 0);

        bits = new Bits().block(true, 2).tables(257, 1, told).code("1111").number(127, 7).code("1111")
                .number(241 - 138 - 11, 7);
        byte[] want = new byte[15];
        for (int i = 0; i < 15; i++) {
            bits.number(i >> 3, 1).number(i >> 2, 1).number(i >> 1, 1).number(i, 1);
            want[i] = (byte) (241 + i);
        }
        bits.code("1110").code("0000");
        for (int i = 0; i < 15; i++) {
            bits.code("1".repeat(i) + "0");
        }
        sound("codes of 1 .. 15 bits", bits.code("1".repeat(15)).done(), want);
    }

    private static void mostLengths() {
        for (int h : new int[] {285, 286}) {
            // The last symbol, a length of 227 or 258, has the end's length.
            Bits bits = zeros(tables(h, 30).code(L18).number(97 - 11, 7).code(L1), 158).code(L2)
                    .code(L18).number(h - 258 - 11, 7).code(L2);
            bits.code(L18).number(28 - 11, 7).code(L1).code(L1).code("0").code("10");
            sound("H " + h + " and K 30", bits, "a");
            bits = zeros(tables(h, 1).code(L18).number(97 - 11, 7).code(L1), 158).code(L2)
                    .code(L18).number(h - 258 - 11, 7).code(L2).code(L1);
            bits.code("0").code("11").number(0, h == 285 ? 5 : 0).code("0").code("10");
            sound("its last symbol", bits, "a".repeat(h == 285 ? 228 : 259));
        }
    }

    private static void distancesCodes() {
        String length = "111";
        String end = "110";
        Bits none = withLength(1).code(L0).code("0");
        int place = none.bitCount() / 8;
        fault("no distance", none.code(length).code("0").rest().bytes(0).done(), 25, place);
        Bits one = withLength(1).code(L1).code("0");
        fault("one distance, other bit", one.code(length).code("1").rest().bytes(0).done(), 25, place);
        fault("one distance of 2", withLength(1).code(L2).code("0").code(end).done(), 24, 0);
        fault("two distances too few", withLength(2).code(L1).code(L2).code("0").code(end).done(), 24, 0);
        fault("three distances too many", withLength(3).code(L1).code(L1).code(L1).code("0").code(end).done(), 24, 0);
        sound("two distances", withLength(2).code(L1).code(L1).code("0").code("10").code(length).code("1").code(end),
                "ababa");
        sound("the second one alone", withLength(2).code(L0).code(L1).code("0").code("10").code(length).code("0")
                .code(end), "ababa");
        sound("30 distances", withLength(30).code(L17).number(7, 3).code(L17).number(7, 3).code(L17).number(4, 3)
                .code(L1).code(L1).code(L0).code("0").code("10").code(end), "ab");
        // As soon as there is a bit with which no code begins: it is the tape's last one.
        for (int i = 0; i < 2; i++) {
            Bits last = withLength(1).code(i == 0 ? L0 : L1);
            for (int letters = 0; (last.bitCount() + 4) % 8 != 0; letters++) {
                last.code("0");
            }
            int symbol = last.bitCount() / 8;
            fault("25 with the last bit", last.code(length).code("1").done(), 25, symbol);
            Bits lacks = withLength(1).code(i == 0 ? L0 : L1);
            for (int letters = 0; (lacks.bitCount() + 3) % 8 != 0; letters++) {
                lacks.code("0");
            }
            fault("25 but for a bit", lacks.code(length).done(), 20, lacks.length());
        }
    }

    private static void leftOver() {
        Bits bits = new Bits().block(true, 1).fixed(256);
        sound("rest of bits", new Bits().block(true, 1).fixed(256).number(63, 6), "");
        fault("27", Shelves.join(bits.done(), new byte[1]), 27, 2);
        fault("27, many", Shelves.join(bits.done(), new byte[100]), 27, 2);
        fault("27 behind sort 0", new Bits().block(true, 0).rest().bytes(0, 0, 255, 255, 9).done(), 27, 5);
    }

    private static byte[] deflated(byte[] row, int level, int strategy) {
        Deflater deflater = new Deflater(level, true);
        deflater.setStrategy(strategy);
        deflater.setInput(row);
        deflater.finish();
        byte[] out = new byte[4000];
        int n = 0;
        // A new strategy takes a call of its own.
        while (!deflater.finished()) {
            n += deflater.deflate(out, n, out.length - n);
        }
        deflater.end();
        return Arrays.copyOf(out, n);
    }

    private static byte[] sample(Random random, int n) {
        byte[] row = new byte[n];
        int letters = 1 + random.nextInt(random.nextBoolean() ? 4 : 256);
        for (int i = 0; i < n; i++) {
            row[i] = (byte) (i > 5 && random.nextInt(4) == 0 ? row[i - 1 - random.nextInt(5)] : random.nextInt(letters));
        }
        return row;
    }

    private static void cuts() {
        byte[] row = sample(new Random(3), 300);
        for (int level : new int[] {0, 1, 9}) {
            byte[] packed = deflated(row, level, Deflater.DEFAULT_STRATEGY);
            sound("whole", packed, row);
            for (int n = 0; n < packed.length; n++) {
                fault("cut to " + n, Arrays.copyOf(packed, n), 20, n);
            }
        }
    }

    private static void others() {
        Random random = new Random(11);
        for (int i = 0; i < 300; i++) {
            byte[] row = sample(random, random.nextInt(513));
            sound("as others pack", deflated(row, random.nextInt(10), random.nextInt(3)), row);
        }
    }

    /** What others refuse or pass is refused or passed here, too. */
    private static void changed() {
        Random random = new Random(17);
        for (int i = 0; i < 20000; i++) {
            byte[] packed = deflated(sample(random, random.nextInt(200)), random.nextInt(10), random.nextInt(3));
            for (int j = random.nextInt(3); j >= 0; j--) {
                packed[random.nextInt(Math.min(packed.length, 60))] ^= 1 << random.nextInt(8);
            }
            ArchiveShelf shelf = new ArchiveShelf();
            Shelves.feed(shelf, packed);
            int n = shelf.unpack();
            byte[] want = inflated(packed);
            if (want == null || want.length > 512) {
                DUE.same("refused by others", n, -1);
            } else {
                DUE.same("passed by others", n, want.length);
                DUE.same("bytes", Shelves.buffer(shelf), want);
            }
        }
    }

    private static byte[] inflated(byte[] packed) {
        Inflater inflater = new Inflater(true);
        byte[] out = new byte[100000];
        try {
            inflater.setInput(packed);
            int n = inflater.inflate(out);
            return inflater.finished() && inflater.getRemaining() == 0 ? Arrays.copyOf(out, n) : null;
        } catch (DataFormatException e) {
            return null;
        } finally {
            inflater.end();
        }
    }
}
