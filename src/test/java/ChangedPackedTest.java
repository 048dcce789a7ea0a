import java.util.Arrays;
import java.util.Map;
import java.util.Random;
import java.util.TreeMap;
import java.util.zip.Deflater;

/** Packed bytes that are made or changed at random: the same bytes, or fault and place, as of the plain reader. */
public final class ChangedPackedTest {
    private static final Due DUE = new Due();
    private static final int RUNS = 12000;

    private static Random random;

    public static void main(String[] args) {
        Map<Integer, Integer> seen = new TreeMap<>();
        for (int run = 0; run < RUNS; run++) {
            random = new Random(run);
            byte[] tape = random.nextInt(3) == 0 ? changed(deflated()) : cut(blocks());
            seen.merge(compared("run " + run, tape), 1, Integer::sum);
        }
        for (int fault : new int[] {0, 20, 21, 22, 23, 24, 25, 26, 27}) {
            DUE.same("runs with fault " + fault, seen.getOrDefault(fault, 0) > 9 ? 1 : 0, 1);
        }
        DUE.same("different faults", seen.size(), 9);
        DUE.close();
    }

    /** The fault, 0 if there was none. */
    private static int compared(String what, byte[] tape) {
        ArchiveShelf shelf = new ArchiveShelf();
        Shelves.feed(shelf, tape);
        int n = shelf.unpack();
        try {
            byte[] want = PlainReader.unpack(tape, 512);
            DUE.same(what + ": unpack", n, want.length);
            DUE.same(what + ": bytes", Shelves.buffer(shelf), want);
            DUE.same(what + ": fault", shelf.fault(0), 0);
            return 0;
        } catch (PlainReader.Fault e) {
            DUE.same(what + ": unpack", n, -1);
            DUE.same(what + ": fault", shelf.fault(0), e.number);
            DUE.same(what + ": place", shelf.fault(1), e.place);
            return e.number;
        }
    }

    private static boolean seldom(int n) {
        return random.nextInt(n) == 0;
    }

    private static byte[] deflated() {
        byte[] row = new byte[random.nextInt(seldom(3) ? 530 : 90)];
        for (int i = 0; i < row.length; i++) {
            row[i] = (byte) (i > 5 && seldom(4) ? row[i - 1 - random.nextInt(5)] : random.nextInt(seldom(2) ? 256 : 9));
        }
        Deflater deflater = new Deflater(random.nextInt(10), true);
        deflater.setInput(row);
        deflater.finish();
        byte[] packed = new byte[2000];
        int n = deflater.deflate(packed);
        deflater.end();
        return Arrays.copyOf(packed, n);
    }

    private static byte[] changed(byte[] packed) {
        for (int i = random.nextInt(3); i > 0; i--) {
            packed[random.nextInt(Math.min(packed.length, 50))] ^= 1 << random.nextInt(8);
        }
        return cut(packed);
    }

    private static byte[] cut(byte[] tape) {
        if (seldom(4) && tape.length > 0) {
            return Arrays.copyOf(tape, tape.length - 1 - random.nextInt(Math.min(tape.length, seldom(2) ? 3 : 999)));
        }
        return seldom(8) ? Arrays.copyOf(tape, tape.length + random.nextInt(3)) : tape;
    }

    private static byte[] blocks() {
        Bits bits = new Bits();
        int more = random.nextInt(4);
        for (int i = 0; i <= more; i++) {
            boolean last = i == more && !seldom(20);
            switch (random.nextInt(seldom(9) ? 4 : 3)) {
                case 0 -> stored(bits, last);
                case 1 -> fixed(bits.block(last, 1));
                case 2 -> told(bits, last);
                default -> bits.block(last, 3);
            }
        }
        return bits.done();
    }

    private static void stored(Bits bits, boolean last) {
        int n = seldom(6) ? 200 + random.nextInt(320) : random.nextInt(9);
        int turned = seldom(20) ? n : 65535 - n;
        bits.block(last, 0);
        bits.number(random.nextInt(256), Math.floorMod(-bits.bitCount(), 8));
        bits.number(n, 16).number(turned, 16);
        for (int i = 0; i < n; i++) {
            bits.bytes(random.nextInt(256));
        }
    }

    private static void fixed(Bits bits) {
        for (int i = random.nextInt(12); i > 0; i--) {
            int symbol = seldom(3) ? 257 + random.nextInt(seldom(9) ? 31 : 29) : random.nextInt(256);
            bits.fixed(symbol);
            if (symbol > 256) {
                bits.number(random.nextInt(32), symbol < 265 || symbol > 284 ? 0 : (symbol - 261) / 4);
                int far = random.nextInt(seldom(9) ? 32 : seldom(3) ? 18 : 4);
                bits.far(far).number(random.nextInt(8192), far < 4 || far > 29 ? 0 : far / 2 - 1);
            }
        }
        bits.fixed(256);
    }

    /** A block of sort 2: lengths of a complete code, one of them seldom another; symbols at random. */
    private static void told(Bits bits, boolean last) {
        int h = 257 + random.nextInt(seldom(30) ? 32 : 30);
        int k = 1 + random.nextInt(seldom(30) ? 32 : 30);
        int[] symbols = new int[h];
        int[] distances = new int[k];
        spread(symbols, 2 + random.nextInt(20));
        swap(symbols, 256);
        int n = random.nextInt(Math.min(k, 9) + 1);
        if (n == 1) {
            distances[random.nextInt(k)] = seldom(9) ? 2 : 1;
        } else if (n > 1) {
            spread(distances, n);
        }
        if (seldom(15)) {
            symbols[random.nextInt(h)] = random.nextInt(16);
        }
        if (seldom(15)) {
            distances[random.nextInt(k)] = random.nextInt(16);
        }
        new Tables(symbols, distances).head(bits, last);
        for (int i = random.nextInt(20); i > 0; i--) {
            bits.number(random.nextInt(256), 8);
        }
        Tables tables = new Tables(symbols, distances);
        bits.code(tables.symbol(256));
    }

    /** So many lengths of a complete code, at places of the row taken at random. */
    private static void spread(int[] row, int n) {
        int[] lengths = new int[n];
        int used = 1;
        while (used < n) {
            int split = random.nextInt(used);
            if (lengths[split] < 15) {
                lengths[split]++;
                lengths[used] = lengths[split];
                used++;
            }
        }
        for (int length : lengths) {
            int place = random.nextInt(row.length);
            while (row[place] != 0) {
                place = (place + 1) % row.length;
            }
            row[place] = length;
        }
    }

    /** One that has a length gives it to this one, if that has none. */
    private static void swap(int[] row, int place) {
        for (int i = 0; i < row.length && row[place] == 0 && !seldom(400); i++) {
            row[place] = row[i];
            row[i] = row[place] == 0 || i == place ? row[i] : 0;
        }
    }
}
