import java.util.Arrays;
import java.util.Random;
import java.util.zip.DataFormatException;
import java.util.zip.Inflater;

/** Promise 14: what is packed, bit by bit, and that it is unpacked again. */
public final class PackTest {
    private static final Due DUE = new Due();

    public static void main(String[] args) throws DataFormatException {
        byHand();
        many();
        DUE.close();
    }

    private static void packed(String what, byte[] row, byte[] want) throws DataFormatException {
        ArchiveShelf shelf = new ArchiveShelf();
        Shelves.file(shelf, "kept", "1");
        shelf.read(0);
        Shelves.feed(shelf, new byte[30]);
        Shelves.type(shelf, row);
        DUE.same(what + ": pack", shelf.pack(), want.length);
        DUE.same(what + ": tape", Shelves.tape(shelf), want);
        DUE.same(what + ": buffer", Shelves.buffer(shelf), row);
        DUE.same(what + ": fault is kept", shelf.fault(0), 1);
        DUE.same(what + ": members", Shelves.members(shelf), "kept=1 ");
        shelf.keep(0);
        DUE.same(what + ": unpack", shelf.unpack(), row.length);
        DUE.same(what + ": unpacked", Shelves.buffer(shelf), row);
        Inflater inflater = new Inflater(true);
        inflater.setInput(want);
        byte[] out = new byte[600];
        int n = inflater.inflate(out);
        DUE.same(what + ": as others unpack it", Arrays.copyOf(out, n), row);
        inflater.end();
    }

    private static Bits start() {
        return new Bits().block(true, 1);
    }

    private static void text(String row, Bits want) throws DataFormatException {
        packed(row, Shelves.bytes(row), want.fixed(256).done());
    }

    private static void byHand() throws DataFormatException {
        text("", start());
        text("a", start().fixed('a'));
        text("aa", start().fixed('a').fixed('a'));
        text("aaa", start().fixed('a').fixed('a').fixed('a'));
        text("aaaa", start().fixed('a').fixed(257).far(0));
        text("abab", start().fixed('a').fixed('b').fixed('a').fixed('b'));
        text("ababa", start().fixed('a').fixed('b').fixed(257).far(1));
        // Of two rows as long the nearest one, of distance 4.
        text("abc-abc+abc", start().fixed('a').fixed('b').fixed('c').fixed('-').fixed(257).far(3).fixed('+')
                .fixed(257).far(3));
        // The longer one, though it is further away; distance 9 has symbol 6 and 2 bits.
        text("abcd-abc+abcd", start().fixed('a').fixed('b').fixed('c').fixed('d').fixed('-').fixed(257).far(4)
                .number(0, 1).fixed('+').fixed(258).far(6).number(0, 2));
        text("a".repeat(11), start().fixed('a').fixed(264).far(0));
        text("a".repeat(12), start().fixed('a').fixed(265).number(0, 1).far(0));
        text("a".repeat(258), start().fixed('a').fixed(284).number(30, 5).far(0));
        text("a".repeat(259), start().fixed('a').fixed(285).far(0));
        text("a".repeat(260), start().fixed('a').fixed(285).far(0).fixed('a'));
        text("a".repeat(262), start().fixed('a').fixed(285).far(0).fixed(257).far(0));
    }

    private static void many() throws DataFormatException {
        Random random = new Random(23);
        byte[] all = new byte[512];
        for (int i = 0; i < 512; i++) {
            all[i] = (byte) (255 - i / 2);
        }
        packed("high bytes", all, PlainPacker.packed(all));
        random.nextBytes(all);
        System.arraycopy(all, 0, all, 500, 12);
        packed("far", all, PlainPacker.packed(all));
        for (int turn = 0; turn < 400; turn++) {
            byte[] row = new byte[random.nextInt(513)];
            int letters = 1 + random.nextInt(turn % 2 == 0 ? 3 : 256);
            int copies = 1 + random.nextInt(20);
            for (int i = 0; i < row.length; i++) {
                row[i] = (byte) random.nextInt(letters);
                if (i > 40 && random.nextInt(copies) == 0) {
                    int from = random.nextInt(i - 20);
                    for (int n = random.nextInt(20); n > 0 && i < row.length; n--) {
                        row[i++] = row[from++];
                    }
                    i--;
                }
            }
            packed("row " + turn, row, PlainPacker.packed(row));
        }
    }
}
