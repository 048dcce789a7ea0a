import java.io.ByteArrayInputStream;
import java.io.IOException;
import java.util.zip.ZipEntry;
import java.util.zip.ZipInputStream;

/** Promise 11: what is written, byte by byte, and that it is read again. */
public final class WriteTest {
    private static final Due DUE = new Due();
    private static final String LONG = "d".repeat(44) + "/" + "e".repeat(45);

    public static void main(String[] args) throws IOException {
        empty();
        blocks();
        digits();
        directoryAtTheEnd();
        packed();
        fullShelf();
        wrongKind();
        DUE.close();
    }

    private static ArchiveShelf mixed() {
        ArchiveShelf shelf = new ArchiveShelf();
        Shelves.directory(shelf, "a");
        Shelves.file(shelf, "a/b", "hello");
        Shelves.file(shelf, "empty", "");
        Shelves.directory(shelf, LONG);
        Shelves.file(shelf, "full", "0123456789".repeat(40));
        Shelves.file(shelf, "x", "abcd");
        return shelf;
    }

    private static String members() {
        return "a/ a/b=hello empty= " + LONG + "/ full=" + "0123456789".repeat(40) + " x=abcd ";
    }

    private static void written(String what, ArchiveShelf shelf, int kind, boolean packed, byte[] want) {
        String before = Shelves.members(shelf);
        Shelves.type(shelf, "kept");
        Shelves.feed(shelf, new byte[40]);
        DUE.same(what + ": length", shelf.write(kind, packed), want.length);
        DUE.same(what + ": tape", Shelves.tape(shelf), want);
        DUE.same(what + ": buffer", Shelves.buffer(shelf), Shelves.bytes("kept"));
        DUE.same(what + ": members", Shelves.members(shelf), before);
        DUE.same(what + ": read again", shelf.read(kind), shelf.count(0));
        DUE.same(what + ": members read", Shelves.members(shelf), before);
    }

    private static void empty() {
        written("no blocks", new ArchiveShelf(), 0, false, Tar.end());
        written("no digits", new ArchiveShelf(), 1, false, Cpio.end());
        written("no entries", new ArchiveShelf(), 2, true, new Zip().done());
    }

    private static void blocks() {
        byte[] want = Shelves.join(Tar.directory("a"), Tar.file("a/b", "hello"), Tar.file("empty", ""),
                Tar.directory(LONG), Tar.file("full", "0123456789".repeat(40)), Tar.file("x", "abcd"), Tar.end());
        written("blocks", mixed(), 0, false, want);
        written("blocks, packed", mixed(), 0, true, want);
    }

    private static void digits() {
        byte[] want = Shelves.join(Cpio.directory(1, "a"), Cpio.file(2, "a/b", "hello"), Cpio.file(3, "empty", ""),
                Cpio.directory(4, LONG), Cpio.file(5, "full", "0123456789".repeat(40)), Cpio.file(6, "x", "abcd"),
                Cpio.end());
        written("digits", mixed(), 1, false, want);
        written("digits, packed", mixed(), 1, true, want);
        for (int n = 1; n <= 4; n++) {
            ArchiveShelf shelf = new ArchiveShelf();
            Shelves.file(shelf, "n".repeat(n), "b".repeat(5 - n));
            written("rests " + n, shelf, 1, false,
                    Shelves.join(Cpio.file(1, "n".repeat(n), "b".repeat(5 - n)), Cpio.end()));
        }
    }

    private static void directoryAtTheEnd() {
        Zip want = new Zip().plain("a/", "").plain("a/b", "hello").plain("empty", "").plain(LONG + "/", "")
                .plain("full", "0123456789".repeat(40)).plain("x", "abcd");
        written("entries", mixed(), 2, false, want.done());
    }

    private static void packed() throws IOException {
        // The fixed codes by hand: 0x4B 0x04 0x00 is a packed 'a', see RFC 1951.
        ArchiveShelf one = new ArchiveShelf();
        Shelves.file(one, "f", "a");
        Shelves.file(one, "e", "");
        Shelves.directory(one, "d");
        byte[] want = new Zip().packed("f", Shelves.row(0x4B, 0x04, 0x00), Shelves.bytes("a")).plain("e", "")
                .plain("d/", "").done();
        written("packed a", one, 2, true, want);

        ArchiveShelf shelf = mixed();
        shelf.write(2, true);
        StringBuilder text = new StringBuilder();
        try (ZipInputStream in = new ZipInputStream(new ByteArrayInputStream(Shelves.tape(shelf)))) {
            for (ZipEntry entry = in.getNextEntry(); entry != null; entry = in.getNextEntry()) {
                String body = new String(in.readAllBytes(), "ISO-8859-1");
                text.append(entry.getName()).append(entry.isDirectory() ? "" : "=" + body).append(' ');
                int way = entry.isDirectory() || body.isEmpty() ? ZipEntry.STORED : ZipEntry.DEFLATED;
                DUE.same("way of " + entry.getName(), entry.getMethod(), way);
            }
        }
        DUE.same("packed, as others read it", text.toString(), members());
        DUE.same("packed, read", shelf.read(2), 6);
        DUE.same("packed, members", Shelves.members(shelf), members());
    }

    private static void fullShelf() {
        ArchiveShelf shelf = new ArchiveShelf();
        for (int k = 0; k < 16; k++) {
            byte[] body = new byte[400];
            for (int i = 0; i < 400; i++) {
                body[i] = (byte) (144 + (i * (2 * k + 1) * 31 + i / 7) % 112);
            }
            Shelves.file(shelf, (char) ('a' + k) + "n".repeat(89), body);
        }
        String members = Shelves.members(shelf);
        for (int kind = 0; kind < 3; kind++) {
            int n = shelf.write(kind, true);
            DUE.same("full: length of kind " + kind, n, shelf.count(2));
            DUE.same("full: read", shelf.read(kind), 16);
            DUE.same("full: members", Shelves.members(shelf), members);
        }
        DUE.same("full: blocks", shelf.write(0, false), 17 * 1024);
    }

    private static void wrongKind() {
        ArchiveShelf shelf = mixed();
        shelf.write(1, false);
        for (int kind : new int[] {3, -1, Integer.MAX_VALUE, Integer.MIN_VALUE}) {
            DUE.refused("write " + kind, shelf, IllegalArgumentException.class, () -> shelf.write(kind, true));
        }
    }
}
