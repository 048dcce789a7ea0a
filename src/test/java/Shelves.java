import java.nio.charset.StandardCharsets;

/** What the tests do with a shelf by several calls at once. */
final class Shelves {
    private Shelves() {
    }

    static byte[] bytes(String text) {
        return text.getBytes(StandardCharsets.ISO_8859_1);
    }

    /** Bytes of these numbers. */
    static byte[] row(int... numbers) {
        byte[] row = new byte[numbers.length];
        for (int i = 0; i < row.length; i++) {
            row[i] = (byte) numbers[i];
        }
        return row;
    }

    static byte[] join(byte[]... rows) {
        int length = 0;
        for (byte[] row : rows) {
            length += row.length;
        }
        byte[] all = new byte[length];
        int place = 0;
        for (byte[] row : rows) {
            System.arraycopy(row, 0, all, place, row.length);
            place += row.length;
        }
        return all;
    }

    /** The buffer becomes these bytes. */
    static void type(ArchiveShelf shelf, byte[] row) {
        shelf.keep(0);
        for (int i = 0; i < row.length; i += 8) {
            int n = Math.min(8, row.length - i);
            long number = 0;
            for (int j = 0; j < n; j++) {
                number = number << 8 | row[i + j] & 255;
            }
            shelf.type(number, n);
        }
    }

    static void type(ArchiveShelf shelf, String text) {
        type(shelf, bytes(text));
    }

    static int file(ArchiveShelf shelf, String name, byte[] body) {
        type(shelf, join(bytes(name), body));
        return shelf.come(name.length(), false);
    }

    static int file(ArchiveShelf shelf, String name, String body) {
        return file(shelf, name, bytes(body));
    }

    static int directory(ArchiveShelf shelf, String name) {
        type(shelf, name);
        return shelf.come(name.length(), true);
    }

    /** The tape becomes these bytes. */
    static void feed(ArchiveShelf shelf, byte[] row) {
        shelf.end(0);
        for (int i = 0; i < row.length; i += 20) {
            shelf.feed(big(row, i), big(row, i + 4), big(row, i + 8), big(row, i + 12), big(row, i + 16));
        }
        shelf.end(row.length);
    }

    private static int big(byte[] row, int place) {
        int number = 0;
        for (int i = place; i < place + 4; i++) {
            number = number << 8 | (i < row.length ? row[i] & 255 : 0);
        }
        return number;
    }

    static byte[] tape(ArchiveShelf shelf) {
        byte[] row = new byte[shelf.count(2)];
        for (int i = 0; i < row.length; i++) {
            row[i] = (byte) shelf.at(i, 1);
        }
        return row;
    }

    static byte[] buffer(ArchiveShelf shelf) {
        byte[] row = new byte[shelf.count(1)];
        for (int i = 0; i < row.length; i++) {
            row[i] = (byte) shelf.typed(i);
        }
        return row;
    }

    static String name(ArchiveShelf shelf, int k) {
        StringBuilder text = new StringBuilder();
        for (int i = 0; i < shelf.name(k, ArchiveShelf.NONE); i++) {
            text.append((char) shelf.name(k, i));
        }
        return text.toString();
    }

    static byte[] body(ArchiveShelf shelf, int k) {
        byte[] row = new byte[shelf.name(k, -2)];
        for (int i = 0; i < row.length; i++) {
            row[i] = (byte) shelf.byteAt(k, i);
        }
        return row;
    }

    /** All members: a directory's name with a slash, a file's with = and its bytes. */
    static String members(ArchiveShelf shelf) {
        StringBuilder text = new StringBuilder();
        for (int k = 0; k < shelf.count(0); k++) {
            text.append(name(shelf, k));
            if (shelf.name(k, -3) == 1) {
                text.append('/');
            } else {
                text.append('=').append(new String(body(shelf, k), StandardCharsets.ISO_8859_1));
            }
            text.append(' ');
        }
        return text.toString();
    }

    /** The children of a path, in order. */
    static String children(ArchiveShelf shelf, String path) {
        type(shelf, path);
        StringBuilder text = new StringBuilder();
        int n = shelf.child(ArchiveShelf.NONE, ArchiveShelf.NONE);
        for (int k = 0; k < n; k++) {
            int length = shelf.child(k, ArchiveShelf.NONE);
            for (int i = 0; i < length; i++) {
                text.append((char) shelf.child(k, i));
            }
            text.append(' ');
        }
        return text.toString();
    }

    static int kind(ArchiveShelf shelf, String path) {
        type(shelf, path);
        return shelf.kind();
    }

    /** All that calls can tell of a shelf. */
    static String state(ArchiveShelf shelf) {
        StringBuilder text = new StringBuilder(members(shelf));
        text.append('|').append(new String(buffer(shelf), StandardCharsets.ISO_8859_1));
        text.append('|').append(new String(tape(shelf), StandardCharsets.ISO_8859_1));
        text.append('|').append(shelf.fault(0)).append(' ').append(shelf.fault(1));
        return text.toString();
    }

    /** The read of this tape has this fault there, and the shelf is as it was. */
    static void fault(Due due, String what, int kind, byte[] tape, int number, int place) {
        ArchiveShelf shelf = new ArchiveShelf();
        file(shelf, "old", "1");
        feed(shelf, tape);
        due.same(what + ": read", shelf.read(kind), ArchiveShelf.NONE);
        due.same(what + ": fault", shelf.fault(0), number);
        due.same(what + ": place", shelf.fault(1), place);
        due.same(what + ": members", members(shelf), "old=1 ");
        due.same(what + ": tape", tape(shelf), tape);
    }

    /** This tape is read without a fault, and the shelf has these members then. */
    static void sound(Due due, String what, int kind, byte[] tape, String members) {
        ArchiveShelf shelf = new ArchiveShelf();
        file(shelf, "old", "1");
        // A fault to be forgotten by the read that has none.
        shelf.read(0);
        type(shelf, "typed");
        feed(shelf, tape);
        int n = shelf.read(kind);
        due.same(what + ": read", n, shelf.count(0));
        due.same(what + ": fault", shelf.fault(0), 0);
        due.same(what + ": place", shelf.fault(1), ArchiveShelf.NONE);
        due.same(what + ": members", members(shelf), members);
        due.same(what + ": tape", tape(shelf), tape);
        due.same(what + ": buffer", buffer(shelf), bytes("typed"));
    }
}
