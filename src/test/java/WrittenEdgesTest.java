import java.nio.charset.StandardCharsets;

/** Part 4: what is written, field by field, of the least and of the most. */
public final class WrittenEdgesTest {
    private static final Due DUE = new Due();
    private static final String NINETY = "n".repeat(45) + "/" + "m".repeat(44);

    public static void main(String[] args) {
        emptyShelf();
        blockHead();
        blockNames();
        blockSizes();
        blockRests();
        digitHead();
        digitNumbers();
        digitRests();
        localHead();
        packedIfAskedFor();
        entry();
        theEnd();
        fullShelf();
        tapeIsThatAlone();
        DUE.close();
    }

    private static String tape(ArchiveShelf shelf, int place, int n) {
        StringBuilder text = new StringBuilder();
        for (int i = place; i < place + n; i++) {
            text.append((char) shelf.at(i, 1));
        }
        return text.toString();
    }

    private static void field(ArchiveShelf shelf, int place, String want) {
        DUE.same("at " + place, tape(shelf, place, want.length()), want);
    }

    private static void zeros(ArchiveShelf shelf, int from, int behind) {
        field(shelf, from, "\0".repeat(behind - from));
    }

    private static ArchiveShelf file(String name, int size) {
        ArchiveShelf shelf = new ArchiveShelf();
        Shelves.file(shelf, name, "b".repeat(size));
        return shelf;
    }

    private static ArchiveShelf directory(String name) {
        ArchiveShelf shelf = new ArchiveShelf();
        Shelves.directory(shelf, name);
        return shelf;
    }

    /** No member at all. */
    private static void emptyShelf() {
        ArchiveShelf shelf = new ArchiveShelf();
        DUE.same("blocks", shelf.write(0, false), 1024);
        zeros(shelf, 0, 1024);
        DUE.same("digits", shelf.write(1, false), 124);
        DUE.same("end", shelf.write(2, false), 22);
        field(shelf, 0, "PK\5\6" + "\0".repeat(18));
        DUE.same("end, packed", shelf.write(2, true), 22);
        for (int kind = 0; kind < 3; kind++) {
            shelf.write(kind, true);
            DUE.same("read again", shelf.read(kind), 0);
        }
    }

    /** "BLOCKS: a head: .. at 100 .., at 108, 116 .., at 124 .., at 136 .., at 148 the sum; at 156 .., 257 .., 329, 337". */
    private static void blockHead() {
        for (boolean isDirectory : new boolean[] {false, true}) {
            ArchiveShelf shelf = isDirectory ? directory("x") : file("x", 0);
            DUE.same("length", shelf.write(0, false), 512 + 1024);
            field(shelf, 0, isDirectory ? "x/" : "x\0");
            zeros(shelf, 2, 100);
            field(shelf, 100, isDirectory ? "0000755\0" : "0000644\0");
            field(shelf, 108, "0000000\0" + "0000000\0");
            field(shelf, 124, "00000000000\0" + "00000000000\0");
            field(shelf, 156, isDirectory ? "5" : "0");
            zeros(shelf, 157, 257);
            field(shelf, 257, "ustar\0" + "00");
            zeros(shelf, 265, 329);
            field(shelf, 329, "0000000\0" + "0000000\0");
            zeros(shelf, 345, 512);
            int sum = 8 * 32;
            for (int i = 0; i < 512; i++) {
                sum += i >= 148 && i < 156 ? 0 : (int) shelf.at(i, 1);
            }
            field(shelf, 148, String.format("%06o", sum) + "\0 ");
            zeros(shelf, 512, 1536);
        }
    }

    /** "the name (of a directory and a slash) at 0": the longest fits. */
    private static void blockNames() {
        ArchiveShelf shelf = file(NINETY, 0);
        shelf.write(0, false);
        field(shelf, 0, NINETY + "\0".repeat(10) + "0000644\0");
        DUE.same("read again", shelf.read(0), 1);
        DUE.same("read again", Shelves.members(shelf), NINETY + "= ");
        shelf = directory(NINETY);
        shelf.write(0, false);
        field(shelf, 0, NINETY + "/" + "\0".repeat(9) + "0000755\0");
        DUE.same("read again", shelf.read(0), 1);
        DUE.same("read again", Shelves.members(shelf), NINETY + "/ ");
    }

    /** "at 124 the size .. eleven octal digits". */
    private static void blockSizes() {
        int[] sizes = {0, 1, 7, 8, 63, 64, 399, 400};
        String[] digits = {"0", "1", "7", "10", "77", "100", "617", "620"};
        for (int i = 0; i < sizes.length; i++) {
            ArchiveShelf shelf = file("f", sizes[i]);
            shelf.write(0, false);
            field(shelf, 124, "0".repeat(11 - digits[i].length()) + digits[i] + "\0");
        }
    }

    /** "The bytes, up to a multiple of 512. In the end 1024 bytes 0." */
    private static void blockRests() {
        for (int size : new int[] {0, 1, 2, 399, 400}) {
            ArchiveShelf shelf = file("f", size);
            int behind = size == 0 ? 512 : 1024;
            DUE.same("length", shelf.write(0, false), behind + 1024);
            field(shelf, 512, "b".repeat(size));
            zeros(shelf, 512 + size, behind + 1024);
        }
    }

    /** "070701, the number of the member from 1 on, 000081a4 (000041ed), 1, 0, 0, 0, the size, 0, 0, 0, 0, .., 0". */
    private static void digitHead() {
        String none = "00000000";
        ArchiveShelf shelf = file("abc", 400);
        DUE.same("length", shelf.write(1, false), 116 + 400 + 124);
        field(shelf, 0, "070701" + "00000001" + "000081a4" + "00000001" + none + none + none + "00000190" + none + none
                + none + none + "00000004" + none + "abc\0" + "\0\0");
        shelf = directory("abc");
        DUE.same("length", shelf.write(1, false), 116 + 124);
        field(shelf, 0, "070701" + "00000001" + "000041ed" + "00000001" + none + none + none + none + none + none + none
                + none + "00000004" + none + "abc\0" + "\0\0");
        field(shelf, 116, "070701" + none + none + "00000001" + none + none + none + none + none + none + none + none
                + "0000000b" + none + "TRAILER!!!\0" + "\0\0\0");
        shelf = directory(NINETY);
        shelf.write(1, false);
        field(shelf, 94, "0000005b" + none + NINETY + "\0");
    }

    /** "the number of the member from 1 on": the 16th is 10, and letters are small. */
    private static void digitNumbers() {
        ArchiveShelf shelf = new ArchiveShelf();
        for (int i = 1; i <= 16; i++) {
            Shelves.directory(shelf, (char) ('a' + i) + "b");
        }
        // The number is where it stands, not when it came.
        Shelves.directory(shelf, "bb");
        DUE.same("length", shelf.write(1, false), 16 * 116 + 124);
        for (int i = 1; i <= 16; i++) {
            field(shelf, 116 * (i - 1) + 6, String.format("%08x", i));
            field(shelf, 116 * (i - 1) + 110, i == 16 ? "bb\0" : (char) ('b' + i) + "b\0");
        }
    }

    /** "the name, a 0; 0s; the bytes; 0s." */
    private static void digitRests() {
        for (int name = 1; name <= 5; name++) {
            for (int size : new int[] {0, 1, 2, 3, 4, 5, 399, 400}) {
                ArchiveShelf shelf = file("n".repeat(name), size);
                int data = (110 + name + 1 + 3) / 4 * 4;
                int behind = (data + size + 3) / 4 * 4;
                DUE.same("length", shelf.write(1, false), behind + 124);
                field(shelf, 110, "n".repeat(name));
                zeros(shelf, 110 + name, data);
                field(shelf, data, "b".repeat(size));
                zeros(shelf, data + size, behind);
                field(shelf, behind, "070701");
            }
        }
    }

    private static String little(long number, int n) {
        return new String(Zip.little(number, n), StandardCharsets.ISO_8859_1);
    }

    /** What an entry and its local head both have, from 20 to the name's length. */
    private static String common(int way, String body, int size, int name) {
        return little(20, 2) + little(0, 2) + little(way, 2) + little(0, 2) + little(33, 2)
                + little(Zip.crc(Shelves.bytes(body)), 4) + little(size, 4) + little(body.length(), 4) + little(name, 2);
    }

    /** "local heads, each with its bytes: 80 75 3 4, 20, 0, the WAY, 0, 33, the check, size, length, the name's, 0; the name". */
    private static void localHead() {
        for (int size : new int[] {0, 1, 399, 400}) {
            String body = "b".repeat(size);
            ArchiveShelf shelf = file(NINETY, size);
            DUE.same("length", shelf.write(2, false), 30 + 90 + size + 46 + 90 + 22);
            field(shelf, 0, "PK\3\4" + common(0, body, size, 90) + little(0, 2) + NINETY + body);
            field(shelf, 120 + size, "PK\1\2");
        }
        ArchiveShelf shelf = directory(NINETY);
        DUE.same("length", shelf.write(2, false), 30 + 91 + 46 + 91 + 22);
        field(shelf, 0, "PK\3\4" + common(0, "", 0, 91) + little(0, 2) + NINETY + "/");
    }

    /** "(of files that are not empty PACKED, WAY 8, if asked for)". */
    private static void packedIfAskedFor() {
        for (int size : new int[] {1, 2, 3, 399, 400}) {
            String body = "b".repeat(size);
            String data = new String(PlainPacker.packed(Shelves.bytes(body)), StandardCharsets.ISO_8859_1);
            ArchiveShelf shelf = file("f", size);
            DUE.same("length", shelf.write(2, true), 31 + data.length() + 47 + 22);
            field(shelf, 0, "PK\3\4" + common(8, body, data.length(), 1) + little(0, 2) + "f" + data);
            field(shelf, 31 + data.length(), "PK\1\2" + little(20, 2) + common(8, body, data.length(), 1));
        }
        ArchiveShelf empty = file("f", 0);
        DUE.same("empty, asked for", empty.write(2, true), 31 + 47 + 22);
        field(empty, 0, "PK\3\4" + common(0, "", 0, 1));
        field(empty, 31, "PK\1\2" + little(20, 2) + common(0, "", 0, 1));
        ArchiveShelf directory = directory("f");
        DUE.same("directory, asked for", directory.write(2, true), 32 + 48 + 22);
        field(directory, 0, "PK\3\4" + common(0, "", 0, 2));
        // Other kinds have nothing packed.
        ArchiveShelf shelf = file("f", 400);
        for (int kind = 0; kind < 2; kind++) {
            shelf.write(kind, false);
            byte[] plain = Shelves.tape(shelf);
            DUE.same("packed or not", shelf.write(kind, true), plain.length);
            DUE.same("packed or not", Shelves.tape(shelf), plain);
        }
    }

    /** "Entries: 80 75 1 2, 20, 20, 0, the WAY, .., the name's, 0, 0, 0, 0, 0 (4 bytes), where the head is; the name." */
    private static void entry() {
        ArchiveShelf shelf = new ArchiveShelf();
        Shelves.directory(shelf, "d");
        Shelves.file(shelf, "d/f", "bytes");
        Shelves.file(shelf, "e", "");
        shelf.write(2, false);
        int begin = 32 + 38 + 31;
        String rest = little(0, 2) + little(0, 2) + little(0, 2) + little(0, 2) + little(0, 4);
        field(shelf, begin, "PK\1\2" + little(20, 2) + common(0, "", 0, 2) + rest + little(0, 4) + "d/"
                + "PK\1\2" + little(20, 2) + common(0, "bytes", 5, 3) + rest + little(32, 4) + "d/f"
                + "PK\1\2" + little(20, 2) + common(0, "", 0, 1) + rest + little(70, 4) + "e");
    }

    /** "The end: 80 75 5 6, 0, 0, how many, how many, bytes of entries, BEGIN, 0." */
    private static void theEnd() {
        ArchiveShelf shelf = new ArchiveShelf();
        for (int n = 1; n <= 16; n++) {
            Shelves.file(shelf, "" + (char) ('a' + n), "x".repeat(n));
            int begin = 31 * n + n * (n + 1) / 2;
            int length = 47 * n;
            DUE.same("length", shelf.write(2, false), begin + length + 22);
            field(shelf, begin + length, "PK\5\6" + little(0, 2) + little(0, 2) + little(n, 2) + little(n, 2)
                    + little(length, 4) + little(begin, 4) + little(0, 2));
        }
    }

    /** The most that can be written: 16 members, longest names, 400 bytes that can't be packed well. */
    private static void fullShelf() {
        ArchiveShelf shelf = new ArchiveShelf();
        for (int k = 0; k < 16; k++) {
            byte[] body = new byte[400];
            new java.util.Random(k).nextBytes(body);
            Shelves.file(shelf, (char) ('a' + k) + "n".repeat(89), body);
        }
        String members = Shelves.members(shelf);
        int[] lengths = {16 * 1024 + 1024, 16 * (204 + 400) + 124, 16 * (30 + 90 + 400 + 46 + 90) + 22};
        for (int kind = 0; kind < 3; kind++) {
            DUE.same("length of kind " + kind, shelf.write(kind, false), lengths[kind]);
            DUE.same("read again", shelf.read(kind), 16);
            DUE.same("read again", Shelves.members(shelf), members);
        }
        DUE.same("packed is longer here", shelf.write(2, true) > lengths[2] ? 1 : 0, 1);
        DUE.same("read again", shelf.read(2), 16);
        DUE.same("read again", Shelves.members(shelf), members);
    }

    /** "the tape is that": nothing is left of what it was, longer or shorter. */
    private static void tapeIsThatAlone() {
        for (int before : new int[] {0, 1, 20000}) {
            for (int kind = 0; kind < 3; kind++) {
                ArchiveShelf shelf = file("f", 3);
                shelf.write(kind, true);
                byte[] want = Shelves.tape(shelf);
                byte[] other = new byte[before];
                java.util.Arrays.fill(other, (byte) 255);
                Shelves.feed(shelf, other);
                DUE.same("over " + before, shelf.write(kind, true), want.length);
                DUE.same("over " + before, Shelves.tape(shelf), want);
            }
        }
    }
}
