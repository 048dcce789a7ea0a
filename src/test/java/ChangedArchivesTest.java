import java.util.Arrays;
import java.util.Map;
import java.util.Random;
import java.util.TreeMap;

/** Archives with fields changed at random are read, or refused at a place, as the plain reader does. */
public final class ChangedArchivesTest {
    private static final Due DUE = new Due();
    private static final int RUNS = 12000;
    private static final int[] EDGES = {0, 1, 9, 20, 21, 31, 32, 33, 46, 47, 48, 49, 52, 53, 54, 55, 56, 57, 58, 64, 65,
        70, 71, 96, 97, 102, 103, 126, 127, 128, 144, 145, 255};
    private static final int[] BLOCK_FIELDS = {0, 1, 2, 99, 100, 107, 108, 115, 116, 123, 124, 131, 132, 133, 134, 135,
        136, 147, 148, 153, 154, 155, 156, 157, 257, 262, 264, 265, 329, 345, 346, 499, 500, 511};
    private static final int[] DIGIT_FIELDS = {0, 5, 6, 13, 14, 17, 18, 21, 22, 54, 58, 59, 60, 61, 62, 94, 99, 100, 101,
        102, 109, 110, 111, 112, 113, 114, 115, 116};
    private static final int[] ENTRY_FIELDS = {0, 3, 4, 6, 7, 8, 9, 10, 11, 12, 16, 19, 20, 21, 23, 24, 25, 27, 28, 29,
        30, 31, 32, 33, 34, 35, 36, 38, 42, 43, 45, 46, 47, 48};
    private static final int[] LOCAL_FIELDS = {0, 3, 4, 6, 8, 10, 14, 17, 18, 21, 22, 25, 26, 27, 28, 29, 30, 31, 32, 33,
        34, 35, 36, 37, 38, 39, 40};

    private static Random random;

    public static void main(String[] args) {
        for (int kind = 0; kind < 3; kind++) {
            Map<Integer, Integer> seen = new TreeMap<>();
            for (int run = 0; run < RUNS; run++) {
                random = new Random(31 * run + kind);
                byte[] tape = kind == 0 ? blocks() : kind == 1 ? digits() : entries();
                seen.merge(compared("kind " + kind + ", run " + run, kind, tape), 1, Integer::sum);
            }
            all(kind, seen);
        }
        DUE.close();
    }

    /** The fault, 0 if there was none. */
    private static int compared(String what, int kind, byte[] tape) {
        Both both = new Both(DUE, what);
        Shelves.feed(both.program, tape);
        feed(both.plain, tape);
        both.read(kind);
        both.fault(0);
        both.fault(1);
        both.compare();
        return both.plain.fault(0);
    }

    private static void feed(PlainShelf shelf, byte[] tape) {
        for (int i = 0; i < tape.length; i += 20) {
            shelf.feed(0, 0, 0, 0, 0);
        }
        shelf.end(tape.length);
        for (int i = 0; i < tape.length; i++) {
            shelf.poke(i, tape[i] & 255);
        }
    }

    /** So that the runs are worth something: each fault of the kind, and none, has come up. */
    private static void all(int kind, Map<Integer, Integer> seen) {
        int[] want = kind == 0 ? new int[] {0, 1, 2, 3, 4, 5, 6, 7, 8, 10, 11}
                : kind == 1 ? new int[] {0, 1, 2, 3, 4, 6, 7, 8, 10, 11}
                : new int[] {0, 1, 3, 4, 6, 7, 8, 10, 11, 12, 13, 14, 20, 21, 22, 23, 24, 25, 26, 27};
        for (int fault : want) {
            DUE.same("kind " + kind + ": runs with fault " + fault, seen.getOrDefault(fault, 0) > 0 ? 1 : 0, 1);
        }
        DUE.same("kind " + kind + ": different faults", seen.size(), want.length);
    }

    private static boolean seldom(int n) {
        return random.nextInt(n) == 0;
    }

    private static String name() {
        String[] names = {"a", "b", "a/b", "a/b/c", "b/a", "c", "d", "d/e", "n".repeat(90), "n".repeat(91), "a//b", ".",
            "TRAILER!!!", "e", "f", "g", "h", "i", "a", "b", "c", "e", "f"};
        return names[random.nextInt(names.length)];
    }

    private static String body() {
        int n = seldom(4) ? 399 + random.nextInt(3) : random.nextInt(20);
        StringBuilder body = new StringBuilder();
        for (int i = 0; i < n; i++) {
            body.append((char) random.nextInt(seldom(3) ? 256 : 3));
        }
        return body.toString();
    }

    private static int members() {
        return seldom(20) ? 15 + random.nextInt(3) : random.nextInt(5);
    }

    private static byte[] changed(byte[] row, int place) {
        byte[] changed = row.clone();
        int edge = EDGES[random.nextInt(EDGES.length)];
        if (place >= 0 && place < row.length) {
            int near = row[place] + (seldom(2) ? 1 : -1);
            changed[place] = (byte) (seldom(2) ? edge : seldom(2) ? near : row[place] ^ 1 << random.nextInt(8));
        }
        return changed;
    }

    private static byte[] cut(byte[] tape) {
        if (!seldom(6)) {
            return tape;
        }
        if (seldom(2)) {
            return Arrays.copyOf(tape, Math.min(20000, tape.length + random.nextInt(700)));
        }
        int less = seldom(2) ? random.nextInt(tape.length + 1) : random.nextInt(4);
        return Arrays.copyOf(tape, tape.length - less);
    }

    private static byte[] blocks() {
        byte[] tape = {};
        int n = members();
        int bad = random.nextInt(n + 1);
        for (int i = 0; i < n; i++) {
            String name = n > 10 && !seldom(20) ? "m" + i : name();
            byte[] member = seldom(3) ? Tar.directory(name) : Tar.file(name, body());
            byte[] head = Arrays.copyOf(member, 512);
            for (int j = i == bad ? random.nextInt(3) : 0; j > 0; j--) {
                head = changed(head, BLOCK_FIELDS[random.nextInt(BLOCK_FIELDS.length)]);
                head = seldom(4) ? head : Tar.summed(head);
            }
            tape = Shelves.join(tape, head, Arrays.copyOfRange(member, 512, member.length));
        }
        tape = Shelves.join(tape, Tar.end());
        return cut(seldom(10) ? changed(tape, tape.length - 1 - random.nextInt(1024)) : tape);
    }

    private static byte[] digits() {
        byte[] tape = {};
        int n = members();
        int bad = random.nextInt(n + 1);
        for (int i = 0; i <= n; i++) {
            String name = n > 10 && !seldom(20) ? "m" + i : name();
            byte[] member = i == n ? Cpio.end() : seldom(3) ? Cpio.directory(i, name) : Cpio.file(i, name, body());
            for (int j = i == bad ? random.nextInt(3) : 0; j > 0; j--) {
                member = changed(member, DIGIT_FIELDS[random.nextInt(DIGIT_FIELDS.length)]);
            }
            tape = Shelves.join(tape, member);
        }
        return cut(tape);
    }

    private static byte[] entries() {
        Zip zip = new Zip();
        int n = members();
        int[] heads = new int[n];
        for (int i = 0; i < n; i++) {
            String name = n > 10 && !seldom(20) ? "m" + i : name();
            heads[i] = zip.begin();
            add(zip, name);
        }
        byte[] tape = zip.done();
        int bad = n == 0 ? 0 : random.nextInt(n);
        for (int j = random.nextInt(3); j > 0; j--) {
            int place = zip.closing() + random.nextInt(22);
            if (n > 0 && !seldom(5)) {
                int entry = zip.entry(bad) + ENTRY_FIELDS[random.nextInt(ENTRY_FIELDS.length)];
                int local = heads[bad] + LOCAL_FIELDS[random.nextInt(LOCAL_FIELDS.length)];
                place = seldom(2) ? entry : local;
            }
            tape = changed(tape, place);
        }
        return cut(tape);
    }

    private static void add(Zip zip, String name) {
        byte[] body = Shelves.bytes(body());
        byte[] data = seldom(2) ? Zip.deflated(body) : PlainPacker.packed(body);
        switch (random.nextInt(5)) {
            case 0 -> zip.plain(name + "/", "");
            case 1 -> zip.plain(name, new String(body, java.nio.charset.StandardCharsets.ISO_8859_1));
            case 2 -> zip.add(name, 8, Zip.crc(body), data, body.length, random.nextInt(3), random.nextInt(3),
                    random.nextInt(3));
            case 3 -> zip.add(name, 8, Zip.crc(body), data, body.length + (seldom(3) ? random.nextInt(3) - 1 : 0));
            default -> zip.packed(name, changed(data, random.nextInt(Math.min(data.length, 20))), body);
        }
    }
}
