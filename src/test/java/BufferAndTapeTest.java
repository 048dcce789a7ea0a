import java.util.zip.CRC32;

/** Promises 1 to 4 and 16 to 21: a new object, the buffer, the check, the tape, the counts. */
public final class BufferAndTapeTest {
    private static final Due DUE = new Due();

    public static void main(String[] args) {
        newObject();
        type();
        keep();
        typed();
        check();
        feed();
        end();
        poke();
        at();
        count();
        DUE.close();
    }

    private static void newObject() {
        ArchiveShelf shelf = new ArchiveShelf();
        DUE.same("new: state", Shelves.state(shelf), "|||0 -1");
        DUE.same("new: root", shelf.kind(), 1);
        DUE.same("new: children", shelf.child(-1, -1), 0);
        ArchiveShelf other = new ArchiveShelf();
        Shelves.file(other, "a", "b");
        Shelves.feed(other, new byte[3]);
        other.read(0);
        DUE.same("new: apart from others", Shelves.state(shelf), "|||0 -1");
    }

    private static void type() {
        ArchiveShelf shelf = new ArchiveShelf();
        DUE.same("type 8", shelf.type(0x0102030405060788L, 8), 8);
        DUE.same("type 3", shelf.type(0xFFFFFFFFFF99AABBL, 3), 11);
        DUE.same("type 1", shelf.type(-1L, 1), 12);
        DUE.same("typed", Shelves.buffer(shelf), Shelves.row(1, 2, 3, 4, 5, 6, 7, 0x88, 0x99, 0xAA, 0xBB, 255));
        for (int n : new int[] {0, -1, 9, Integer.MIN_VALUE, Integer.MAX_VALUE}) {
            DUE.refused("type n " + n, shelf, IllegalArgumentException.class, () -> shelf.type(5, n));
        }
        Shelves.type(shelf, new byte[505]);
        DUE.refused("type beyond 512", shelf, UnsupportedOperationException.class, () -> shelf.type(1, 8));
        DUE.same("type up to 512", shelf.type(1, 7), 512);
        DUE.refused("type at 512", shelf, UnsupportedOperationException.class, () -> shelf.type(1, 1));
        DUE.refused("type, both wrong", shelf, IllegalArgumentException.class, () -> shelf.type(1, 9));
    }

    private static void keep() {
        ArchiveShelf shelf = new ArchiveShelf();
        Shelves.type(shelf, "abcde");
        shelf.keep(5);
        DUE.same("keep all", Shelves.buffer(shelf), Shelves.bytes("abcde"));
        shelf.keep(2);
        DUE.same("keep 2", Shelves.buffer(shelf), Shelves.bytes("ab"));
        DUE.refused("keep 3 of 2", shelf, IllegalArgumentException.class, () -> shelf.keep(3));
        DUE.refused("keep -1", shelf, IllegalArgumentException.class, () -> shelf.keep(-1));
        DUE.refused("keep least", shelf, IllegalArgumentException.class, () -> shelf.keep(Integer.MIN_VALUE));
        shelf.type('z', 1);
        DUE.same("type behind what is kept", Shelves.buffer(shelf), Shelves.bytes("abz"));
        shelf.keep(0);
        DUE.same("keep 0", shelf.count(1), 0);
    }

    private static void typed() {
        ArchiveShelf shelf = new ArchiveShelf();
        DUE.refused("typed of none", shelf, IndexOutOfBoundsException.class, () -> shelf.typed(0));
        Shelves.type(shelf, Shelves.row(200, 7));
        DUE.same("typed 0", shelf.typed(0), 200);
        DUE.same("typed 1", shelf.typed(1), 7);
        for (int i : new int[] {2, 511, 512, -1, Integer.MIN_VALUE, Integer.MAX_VALUE}) {
            DUE.refused("typed " + i, shelf, IndexOutOfBoundsException.class, () -> shelf.typed(i));
        }
    }

    private static void check() {
        ArchiveShelf shelf = new ArchiveShelf();
        byte[] row = new byte[512];
        for (int n : new int[] {0, 1, 2, 9, 255, 256, 511, 512}) {
            for (int i = 0; i < n; i++) {
                row[i] = (byte) (i * 37 + n);
            }
            CRC32 crc = new CRC32();
            crc.update(row, 0, n);
            Shelves.type(shelf, java.util.Arrays.copyOf(row, n));
            DUE.same("check of " + n, shelf.check(), (int) crc.getValue());
            DUE.same("check keeps the buffer", shelf.count(1), n);
        }
    }

    private static void feed() {
        ArchiveShelf shelf = new ArchiveShelf();
        DUE.same("feed", shelf.feed(0x01020304, 0x05060708, 0x090A0B0C, 0x0D0E0F10, 0xF1F2F3F4), 20);
        DUE.same("fed", Shelves.tape(shelf), Shelves.row(1, 2, 3, 4, 5, 6, 7, 8, 9, 10, 11, 12, 13, 14, 15, 16,
                0xF1, 0xF2, 0xF3, 0xF4));
        for (int i = 2; i <= 1000; i++) {
            DUE.same("feed more", shelf.feed(i, i, i, i, i), 20 * i);
        }
        DUE.refused("feed beyond 20000", shelf, UnsupportedOperationException.class,
                () -> shelf.feed(0, 0, 0, 0, 0));
        shelf.end(19981);
        DUE.refused("feed to 20001", shelf, UnsupportedOperationException.class,
                () -> shelf.feed(0, 0, 0, 0, 0));
        shelf.end(19980);
        DUE.same("feed to 20000", shelf.feed(1, 2, 3, 4, 5), 20000);
        DUE.same("the last one", shelf.at(19999, 1), 5);
    }

    private static void end() {
        ArchiveShelf shelf = new ArchiveShelf();
        shelf.feed(1, 2, 3, 4, 5);
        shelf.end(20);
        DUE.same("end with all", shelf.count(2), 20);
        shelf.end(4);
        DUE.same("end", Shelves.tape(shelf), Shelves.row(0, 0, 0, 1));
        DUE.refused("end 5 of 4", shelf, IllegalArgumentException.class, () -> shelf.end(5));
        DUE.refused("end -1", shelf, IllegalArgumentException.class, () -> shelf.end(-1));
        DUE.same("feed behind what is kept", shelf.feed(9, 0, 0, 0, 0), 24);
        DUE.same("fed behind", shelf.at(0, 8), 0x0000000100000009L);
        shelf.end(0);
        DUE.same("end 0", shelf.count(2), 0);
    }

    private static void poke() {
        ArchiveShelf shelf = new ArchiveShelf();
        DUE.refused("poke nothing", shelf, IndexOutOfBoundsException.class, () -> shelf.poke(0, 0));
        shelf.feed(0x010203FF, 0, 0, 0, 0);
        DUE.same("poke the first", shelf.poke(0, 9), 1);
        DUE.same("poke the first again", shelf.poke(0, 1), 9);
        DUE.same("poke", shelf.poke(3, 0), 255);
        DUE.same("poke again", shelf.poke(3, 255), 0);
        DUE.same("poke the last", shelf.poke(19, 128), 0);
        DUE.same("poked", shelf.at(12, 8), 128);
        DUE.same("poked before", shelf.at(0, 4), 0x010203FFL);
        for (int i : new int[] {20, -1, Integer.MAX_VALUE, Integer.MIN_VALUE}) {
            DUE.refused("poke at " + i, shelf, IndexOutOfBoundsException.class, () -> shelf.poke(i, 256));
        }
        for (int v : new int[] {256, -1, Integer.MAX_VALUE, Integer.MIN_VALUE}) {
            DUE.refused("poke " + v, shelf, IllegalArgumentException.class, () -> shelf.poke(19, v));
        }
    }

    private static void at() {
        ArchiveShelf shelf = new ArchiveShelf();
        shelf.feed(0x81020304, 0x05060788, 0, 0, 0x7F);
        DUE.same("at 8", shelf.at(0, 8), 0x8102030405060788L);
        DUE.same("at 1", shelf.at(0, 1), 0x81);
        DUE.same("at 3", shelf.at(5, 3), 0x060788);
        DUE.same("at the end", shelf.at(12, 8), 0x7F);
        DUE.same("at the last", shelf.at(19, 1), 0x7F);
        for (int n : new int[] {0, 9, -1, Integer.MAX_VALUE, Integer.MIN_VALUE}) {
            DUE.refused("at n " + n, shelf, IllegalArgumentException.class, () -> shelf.at(-1, n));
        }
        for (int i : new int[] {13, 20, -1, Integer.MAX_VALUE, Integer.MIN_VALUE}) {
            DUE.refused("at i " + i, shelf, IndexOutOfBoundsException.class, () -> shelf.at(i, 8));
        }
        shelf.end(3);
        DUE.refused("at in short tape", shelf, IndexOutOfBoundsException.class, () -> shelf.at(0, 4));
        DUE.same("at whole", shelf.at(0, 3), 0x810203);
    }

    private static void count() {
        ArchiveShelf shelf = new ArchiveShelf();
        Shelves.file(shelf, "a", "b");
        Shelves.type(shelf, "abc");
        Shelves.feed(shelf, new byte[5]);
        DUE.same("count 0", shelf.count(0), 1);
        DUE.same("count 1", shelf.count(1), 3);
        DUE.same("count 2", shelf.count(2), 5);
        for (int what : new int[] {3, -1, Integer.MAX_VALUE, Integer.MIN_VALUE}) {
            DUE.refused("count " + what, shelf, IndexOutOfBoundsException.class, () -> shelf.count(what));
        }
    }
}
