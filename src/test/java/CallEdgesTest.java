import java.util.Arrays;

/** Promises 1 to 21 at the edges of their arguments and of the buffer, the tape and the shelf. */
public final class CallEdgesTest {
    private static final Due DUE = new Due();
    private static final Class<IllegalArgumentException> IAE = IllegalArgumentException.class;
    private static final Class<IndexOutOfBoundsException> IOOBE = IndexOutOfBoundsException.class;
    private static final Class<IllegalStateException> ISE = IllegalStateException.class;
    private static final Class<UnsupportedOperationException> UOE = UnsupportedOperationException.class;
    private static final int LEAST = Integer.MIN_VALUE;
    private static final int MOST = Integer.MAX_VALUE;

    public static void main(String[] args) {
        newObject();
        typeWidths();
        typeTo512();
        keep();
        typed();
        comeCounts();
        comeOrder();
        go();
        nameAndBytes();
        kind();
        child();
        writeAndReadKinds();
        latestFault();
        pack();
        unpack();
        check();
        feed();
        end();
        poke();
        at();
        count();
        DUE.close();
    }

    /** A shelf on which nothing is empty: members a= d/ f=12, a buffer, a tape, a fault. */
    private static ArchiveShelf full() {
        ArchiveShelf shelf = new ArchiveShelf();
        Shelves.file(shelf, "a", "");
        Shelves.directory(shelf, "d");
        Shelves.file(shelf, "f", "12");
        Shelves.feed(shelf, Shelves.bytes("tape"));
        shelf.read(0);
        Shelves.type(shelf, "buffer");
        return shelf;
    }

    /** Promise 1: "All empty." */
    private static void newObject() {
        ArchiveShelf shelf = new ArchiveShelf();
        for (int what = 0; what < 3; what++) {
            DUE.same("new: count " + what, shelf.count(what), 0);
        }
        DUE.same("new: fault", shelf.fault(0), 0);
        DUE.same("new: place", shelf.fault(1), -1);
        DUE.same("new: check", shelf.check(), 0);
        DUE.same("new: kind", shelf.kind(), 1);
        DUE.same("new: children", shelf.child(-1, -1), 0);
        DUE.refused("new: typed", shelf, IOOBE, () -> shelf.typed(0));
        DUE.refused("new: name", shelf, IOOBE, () -> shelf.name(0, -1));
        DUE.refused("new: byteAt", shelf, IOOBE, () -> shelf.byteAt(0, 0));
        DUE.refused("new: go", shelf, IOOBE, () -> shelf.go(0));
        DUE.refused("new: child", shelf, IOOBE, () -> shelf.child(0, -1));
        DUE.refused("new: at", shelf, IOOBE, () -> shelf.at(0, 1));
        DUE.refused("new: poke", shelf, IOOBE, () -> shelf.poke(0, 0));
        DUE.refused("new: keep 1", shelf, IAE, () -> shelf.keep(1));
        DUE.refused("new: end 1", shelf, IAE, () -> shelf.end(1));
        DUE.refused("new: come 0", shelf, IAE, () -> shelf.come(0, true));
        shelf.keep(0);
        shelf.end(0);
        DUE.same("new: state", Shelves.state(shelf), "|||0 -1");
        for (int kind = 0; kind < 3; kind++) {
            DUE.same("new: no tape is no archive of kind " + kind, shelf.read(kind), -1);
            DUE.same("new: fault of no tape", shelf.fault(0), 1);
            DUE.same("new: its place", shelf.fault(1), 0);
        }
    }

    /** Promise 2: "n is not 1 .. 8"; "The lowest n bytes of a number .. the highest of them first". */
    private static void typeWidths() {
        for (int n : new int[] {0, -1, 9, 10, -8, LEAST, MOST, 256 + 1}) {
            ArchiveShelf shelf = full();
            DUE.refused("type n " + n, shelf, IAE, () -> shelf.type(97, n));
        }
        byte[] eight = Shelves.row(0xF1, 0xE2, 0xD3, 0xC4, 0x85, 0x76, 0x67, 0x58);
        for (int n = 1; n <= 8; n++) {
            ArchiveShelf shelf = new ArchiveShelf();
            DUE.same("type n " + n, shelf.type(0xF1E2D3C485766758L, n), n);
            DUE.same("typed n " + n, Shelves.buffer(shelf), Arrays.copyOfRange(eight, 8 - n, 8));
            DUE.same("type n " + n + " behind", shelf.type(0L, n), 2 * n);
            DUE.same("type n " + n + " behind", shelf.type(-1L, n), 3 * n);
            DUE.same("typed n " + n + " before", shelf.typed(2 * n - 1), 0);
            DUE.same("typed n " + n + " last", shelf.typed(3 * n - 1), 255);
        }
    }

    /** Promise 2: "they would be more than 512". */
    private static void typeTo512() {
        for (int n = 1; n <= 8; n++) {
            int width = n;
            for (int size : new int[] {512 - n - 1, 512 - n, 512 - n + 1, 511, 512}) {
                ArchiveShelf shelf = new ArchiveShelf();
                Shelves.type(shelf, new byte[size]);
                if (size + n <= 512) {
                    DUE.same("type " + n + " behind " + size, shelf.type(7, n), size + n);
                    DUE.same("the last", shelf.typed(size + n - 1), 7);
                } else {
                    DUE.refused("type " + n + " behind " + size, shelf, UOE, () -> shelf.type(7, width));
                }
            }
        }
        ArchiveShelf shelf = new ArchiveShelf();
        Shelves.type(shelf, new byte[512]);
        DUE.refused("n 0 and more than 512", shelf, IAE, () -> shelf.type(0, 0));
        DUE.refused("n 9 and more than 512", shelf, IAE, () -> shelf.type(0, 9));
        shelf.keep(511);
        DUE.same("room for one again", shelf.type(1, 1), 512);
    }

    /** Promise 3: "it has not so many, or n is below 0". */
    private static void keep() {
        for (int size : new int[] {0, 1, 6, 512}) {
            for (int n : new int[] {-1, 0, size - 1, size, size + 1, 513, LEAST, MOST}) {
                ArchiveShelf shelf = full();
                byte[] row = new byte[size];
                Arrays.fill(row, (byte) 200);
                Shelves.type(shelf, row);
                if (n < 0 || n > size) {
                    DUE.refused("keep " + n + " of " + size, shelf, IAE, () -> shelf.keep(n));
                } else {
                    shelf.keep(n);
                    DUE.same("keep " + n + " of " + size, Shelves.buffer(shelf), Arrays.copyOf(row, n));
                }
            }
        }
    }

    /** Promise 4. */
    private static void typed() {
        for (int size : new int[] {1, 2, 512}) {
            ArchiveShelf shelf = full();
            byte[] row = new byte[size];
            row[0] = 7;
            row[size - 1] = (byte) 255;
            Shelves.type(shelf, row);
            DUE.same("first of " + size, shelf.typed(0), size == 1 ? 255 : 7);
            DUE.same("last of " + size, shelf.typed(size - 1), 255);
            for (int i : new int[] {-1, size, size + 1, LEAST, MOST}) {
                DUE.refused("typed " + i + " of " + size, shelf, IOOBE, () -> shelf.typed(i));
            }
            shelf.keep(size - 1);
            DUE.refused("what is kept no more", shelf, IOOBE, () -> shelf.typed(size - 1));
        }
    }

    /** Promise 5: "the buffer's first n bytes are its name"; "it has not so many". */
    private static void comeCounts() {
        for (int n : new int[] {-1, 0, 7, 8, 512, 513, LEAST, MOST}) {
            ArchiveShelf shelf = full();
            DUE.refused("file of " + n, shelf, IAE, () -> shelf.come(n, false));
            DUE.refused("directory of " + n, shelf, IAE, () -> shelf.come(n, true));
        }
        for (int n = 1; n <= 6; n++) {
            ArchiveShelf shelf = full();
            DUE.same("first " + n, shelf.come(n, false), 4);
            DUE.same("first " + n, Shelves.members(shelf),
                    "a= d/ f=12 " + "buffer".substring(0, n) + "=" + "buffer".substring(n) + " ");
            DUE.same("the buffer is empty then", shelf.count(1), 0);
            DUE.same("the tape is not", shelf.count(2), 4);
            DUE.same("the fault is kept", shelf.fault(0), 1);
        }
        ArchiveShelf shelf = full();
        DUE.refused("directory of all but one", shelf, IAE, () -> shelf.come(5, true));
        DUE.same("directory of all", shelf.come(6, true), 4);
        Shelves.type(shelf, "n".repeat(90) + "b".repeat(400));
        DUE.refused("91 and 399", shelf, IAE, () -> shelf.come(91, false));
        DUE.refused("89 and 401", shelf, IAE, () -> shelf.come(89, false));
        DUE.same("90 and 400", shelf.come(90, false), 5);
        Shelves.type(shelf, "n".repeat(90) + "b".repeat(422));
        for (int n : new int[] {89, 90, 91, 111, 112, 113}) {
            DUE.refused("of 512: " + n, shelf, IAE, () -> shelf.come(n, false));
        }
    }

    /** Promise 5: of three exceptions "the one named first when several would do". */
    private static void comeOrder() {
        ArchiveShelf shelf = new ArchiveShelf();
        for (int i = 0; i < 15; i++) {
            Shelves.file(shelf, "f" + i, "");
        }
        Shelves.file(shelf, "d/e", "");
        refusedAs(shelf, "f0/.", true, IAE, "no name, in the way, the 17th");
        refusedAs(shelf, "f0/x y", false, IAE, "no name, in the way, the 17th");
        Shelves.type(shelf, "f0/x" + "b".repeat(401));
        DUE.refused("too many bytes, in the way, the 17th", shelf, IAE, () -> shelf.come(4, false));
        Shelves.type(shelf, "f0/xy");
        DUE.refused("directory with a byte, in the way, the 17th", shelf, IAE, () -> shelf.come(4, true));
        DUE.refused("not so many, in the way, the 17th", shelf, IAE, () -> shelf.come(6, true));
        refusedAs(shelf, "f0/x", false, ISE, "in the way, the 17th");
        refusedAs(shelf, "f0/x", true, ISE, "directory in the way, the 17th");
        refusedAs(shelf, "d", false, ISE, "file over others, the 17th");
        refusedAs(shelf, "d", true, UOE, "directory over others, the 17th");
        refusedAs(shelf, "g", false, UOE, "the 17th");
        DUE.same("none of these", Shelves.directory(shelf, "f0"), 16);
    }

    private static void refusedAs(ArchiveShelf shelf, String name, boolean directory,
            Class<? extends RuntimeException> due, String what) {
        Shelves.type(shelf, name);
        DUE.refused(what, shelf, due, () -> shelf.come(name.length(), directory));
    }

    /** Promise 6. */
    private static void go() {
        for (int n : new int[] {1, 2, 15, 16}) {
            for (int k : new int[] {-1, 0, n - 1, n, n + 1, 16, 17, LEAST, MOST}) {
                ArchiveShelf shelf = new ArchiveShelf();
                StringBuilder left = new StringBuilder();
                for (int i = 0; i < n; i++) {
                    Shelves.file(shelf, "m" + i, "" + i);
                    left.append(i == k ? "" : "m" + i + "=" + i + " ");
                }
                if (k >= 0 && k < n) {
                    DUE.same("go " + k + " of " + n, shelf.go(k), n - 1);
                    DUE.same("left behind go " + k + " of " + n, Shelves.members(shelf), left.toString());
                    for (int i = n; i <= 16; i++) {
                        Shelves.file(shelf, "new" + i, "n" + i);
                        left.append("new").append(i).append("=n").append(i).append(" ");
                    }
                    DUE.same("16 again behind go " + k + " of " + n, Shelves.members(shelf), left.toString());
                } else {
                    DUE.refused("go " + k + " of " + n, shelf, IOOBE, () -> shelf.go(k));
                }
            }
        }
    }

    /** Promises 7 and 8. */
    private static void nameAndBytes() {
        ArchiveShelf shelf = new ArchiveShelf();
        String longest = "n".repeat(89) + "~";
        byte[] body = new byte[400];
        body[0] = (byte) 128;
        body[399] = (byte) 255;
        Shelves.file(shelf, "!", "");
        Shelves.file(shelf, longest, body);
        Shelves.directory(shelf, "d");
        int[] nameLengths = {1, 90, 1};
        int[] lengths = {0, 400, 0};
        for (int k = 0; k < 3; k++) {
            int member = k;
            DUE.same("name's length " + k, shelf.name(k, -1), nameLengths[k]);
            DUE.same("length " + k, shelf.name(k, -2), lengths[k]);
            DUE.same("directory " + k, shelf.name(k, -3), k == 2 ? 1 : 0);
            for (int i : new int[] {-4, -5, nameLengths[k], nameLengths[k] + 1, LEAST, MOST}) {
                DUE.refused("name " + k + " " + i, shelf, IOOBE, () -> shelf.name(member, i));
            }
            for (int i : new int[] {-1, -2, -3, lengths[k], lengths[k] + 1, LEAST, MOST}) {
                DUE.refused("byteAt " + k + " " + i, shelf, IOOBE, () -> shelf.byteAt(member, i));
            }
        }
        DUE.same("its only byte", shelf.name(0, 0), 33);
        DUE.same("its first byte", shelf.name(1, 0), 'n');
        DUE.same("its last byte", shelf.name(1, 89), 126);
        DUE.same("first byte", shelf.byteAt(1, 0), 128);
        DUE.same("last byte", shelf.byteAt(1, 399), 255);
        for (int k : new int[] {-1, 3, 4, 16, LEAST, MOST}) {
            for (int i : new int[] {-3, -2, -1, 0}) {
                DUE.refused("name " + k + " " + i, shelf, IOOBE, () -> shelf.name(k, i));
            }
            DUE.refused("byteAt " + k, shelf, IOOBE, () -> shelf.byteAt(k, 0));
        }
    }

    /** Promise 9: "0 nothing, 1 a directory (.. no byte: the root), 2 a file". */
    private static void kind() {
        ArchiveShelf shelf = new ArchiveShelf();
        Shelves.file(shelf, "a/b/c", "");
        Shelves.directory(shelf, "d");
        Shelves.directory(shelf, "a/b");
        Shelves.file(shelf, "n".repeat(90), "");
        String[] paths = {"", "a", "a/b", "a/b/c", "d", "n".repeat(90), "a/", "/a", "/", "a/b/", "a/b/c/", "a/b/c/d", "b",
            "d/e", "A", "n", "n".repeat(89), "n".repeat(91), "a/b/cc", "a//b", "a\0", "\0", "a/b/c\0"};
        int[] kinds = {1, 1, 1, 2, 1, 2};
        for (int i = 0; i < paths.length; i++) {
            DUE.same("kind <" + paths[i] + ">", Shelves.kind(shelf, paths[i]), i < kinds.length ? kinds[i] : 0);
        }
        byte[] most = new byte[512];
        Arrays.fill(most, (byte) 'n');
        Shelves.type(shelf, most);
        DUE.same("kind of 512 bytes", shelf.kind(), 0);
        DUE.same("the buffer is kept", shelf.count(1), 512);
        shelf.keep(90);
        DUE.same("kind of 90 of them", shelf.kind(), 2);
        shelf.keep(0);
        shelf.go(0);
        DUE.same("with none under it", Shelves.kind(shelf, "a/b"), 1);
        DUE.same("under which that lies", Shelves.kind(shelf, "a"), 1);
        shelf.go(1);
        DUE.same("gone", Shelves.kind(shelf, "a/b"), 0);
        DUE.same("gone", Shelves.kind(shelf, "a"), 0);
        ArchiveShelf one = new ArchiveShelf();
        Shelves.file(one, "p/q/r", "");
        DUE.same("what the only member lies under", Shelves.kind(one, "p"), 1);
        DUE.same("what the only member lies under", Shelves.kind(one, "p/q"), 1);
        DUE.same("the only member", Shelves.kind(one, "p/q/r"), 2);
    }

    /** Promise 10. */
    private static void child() {
        ArchiveShelf shelf = new ArchiveShelf();
        Shelves.file(shelf, "b/yy/1", "");
        Shelves.directory(shelf, "a");
        Shelves.file(shelf, "b/x", "");
        Shelves.file(shelf, "b/y/2", "");
        Shelves.file(shelf, "b/yy/0", "");
        Shelves.directory(shelf, "b");
        DUE.same("of the root", Shelves.children(shelf, ""), "b a ");
        DUE.same("of b", Shelves.children(shelf, "b"), "yy x y ");
        DUE.same("of b/yy", Shelves.children(shelf, "b/yy"), "1 0 ");
        for (String none : new String[] {"a", "b/x", "b/", "/", "c", "b/yy/1", "b/yyy", "b/yy/", "x".repeat(512)}) {
            DUE.same("of <" + none + ">", Shelves.children(shelf, none), "");
            DUE.refused("child 0 of <" + none + ">", shelf, IOOBE, () -> shelf.child(0, -1));
        }
        Shelves.type(shelf, "b");
        DUE.same("how many", shelf.child(-1, -1), 3);
        for (int i : new int[] {-2, -3, 0, 1, LEAST, MOST}) {
            DUE.refused("k NONE, i " + i, shelf, IOOBE, () -> shelf.child(-1, i));
        }
        for (int k : new int[] {-2, -3, 3, 4, LEAST, MOST}) {
            DUE.refused("k " + k, shelf, IOOBE, () -> shelf.child(k, -1));
            DUE.refused("k " + k + ", i 0", shelf, IOOBE, () -> shelf.child(k, 0));
        }
        int[] lengths = {2, 1, 1};
        for (int k = 0; k < 3; k++) {
            int number = k;
            DUE.same("length of child " + k, shelf.child(k, -1), lengths[k]);
            DUE.same("first byte of child " + k, shelf.child(k, 0), "yxy".charAt(k));
            DUE.same("last byte of child " + k, shelf.child(k, lengths[k] - 1), "yxy".charAt(k));
            for (int i : new int[] {-2, -3, lengths[k], lengths[k] + 1, LEAST, MOST}) {
                DUE.refused("child " + k + ", byte " + i, shelf, IOOBE, () -> shelf.child(number, i));
            }
        }
        ArchiveShelf wide = new ArchiveShelf();
        for (int i = 0; i < 16; i++) {
            Shelves.file(wide, "d/" + (char) ('a' + i), "");
        }
        DUE.same("16 children", Shelves.children(wide, "d"), "a b c d e f g h i j k l m n o p ");
        DUE.same("one child", Shelves.children(wide, ""), "d ");
    }

    /** Promises 11 and 12: "the kind is not 0 .. 2". */
    private static void writeAndReadKinds() {
        for (int kind : new int[] {-1, -2, 3, 4, LEAST, MOST}) {
            ArchiveShelf shelf = full();
            DUE.refused("write " + kind, shelf, IAE, () -> shelf.write(kind, false));
            DUE.refused("write packed " + kind, shelf, IAE, () -> shelf.write(kind, true));
            DUE.refused("read " + kind, shelf, IAE, () -> shelf.read(kind));
        }
        for (int kind = 0; kind < 3; kind++) {
            ArchiveShelf shelf = full();
            DUE.same("write " + kind, shelf.write(kind, true), shelf.count(2));
            DUE.same("write: buffer is kept", Shelves.buffer(shelf), Shelves.bytes("buffer"));
            DUE.same("write: fault is kept", shelf.fault(0), 1);
            byte[] tape = Shelves.tape(shelf);
            shelf.go(0);
            DUE.same("read " + kind, shelf.read(kind), 3);
            DUE.same("read: members", Shelves.members(shelf), "a= d/ f=12 ");
            DUE.same("read: tape is kept", Shelves.tape(shelf), tape);
            DUE.same("read: buffer is kept", Shelves.buffer(shelf), Shelves.bytes("buffer"));
            for (int again = 0; again < 3; again++) {
                Shelves.file(shelf, "other" + again, "");
                DUE.same("read again " + kind, shelf.read(kind), 3);
                DUE.same("the members that came and no other", Shelves.members(shelf), "a= d/ f=12 ");
            }
            shelf.end(tape.length - 5);
            shelf.go(2);
            DUE.same("read of what is cut " + kind, shelf.read(kind), -1);
            DUE.same("the shelf is as it was", Shelves.members(shelf), "a= d/ ");
        }
    }

    /** Promise 13. */
    private static void latestFault() {
        ArchiveShelf shelf = new ArchiveShelf();
        fault(shelf, 0, -1);
        shelf.unpack();
        fault(shelf, 20, 0);
        shelf.read(2);
        fault(shelf, 1, 0);
        shelf.feed(7, 0, 0, 0, 0);
        shelf.read(1);
        fault(shelf, 1, 20);
        shelf.unpack();
        fault(shelf, 22, 0);
        shelf.write(0, false);
        shelf.pack();
        shelf.kind();
        shelf.end(0);
        fault(shelf, 22, 0);
        DUE.refused("read 3", shelf, IAE, () -> shelf.read(3));
        fault(shelf, 22, 0);
        shelf.write(0, false);
        shelf.read(0);
        fault(shelf, 0, -1);
        shelf.end(0);
        shelf.read(0);
        fault(shelf, 1, 0);
        shelf.pack();
        shelf.unpack();
        fault(shelf, 0, -1);
        for (int what : new int[] {-1, 2, 3, LEAST, MOST}) {
            DUE.refused("fault " + what, shelf, IOOBE, () -> shelf.fault(what));
        }
    }

    private static void fault(ArchiveShelf shelf, int number, int place) {
        DUE.same("latest fault", shelf.fault(0), number);
        DUE.same("its place", shelf.fault(1), place);
    }

    /** Promise 14, of the emptiest and the fullest buffer. */
    private static void pack() {
        ArchiveShelf shelf = full();
        shelf.keep(0);
        DUE.same("pack of none", shelf.pack(), 2);
        DUE.same("packed none", shelf.at(0, 2), 0x0300);
        byte[] row = new byte[512];
        for (int i = 0; i < 512; i++) {
            row[i] = (byte) (i * i / 3 + i);
        }
        Shelves.type(shelf, row);
        byte[] want = PlainPacker.packed(row);
        DUE.same("pack of 512", shelf.pack(), want.length);
        DUE.same("packed 512", Shelves.tape(shelf), want);
        DUE.same("the buffer is kept", Shelves.buffer(shelf), row);
        DUE.same("unpacked again", shelf.unpack(), 512);
        DUE.same("unpacked again", Shelves.buffer(shelf), row);
    }

    /** Promise 15: "at most 512 bytes"; "NONE: .. the buffer is as it was". */
    private static void unpack() {
        for (int n : new int[] {0, 1, 511, 512, 513}) {
            ArchiveShelf shelf = full();
            byte[] row = new byte[n];
            Shelves.feed(shelf, PlainPacker.packed(row));
            byte[] tape = Shelves.tape(shelf);
            DUE.same("unpack " + n, shelf.unpack(), n <= 512 ? n : -1);
            DUE.same("buffer", Shelves.buffer(shelf), n <= 512 ? row : Shelves.bytes("buffer"));
            DUE.same("fault", shelf.fault(0), n <= 512 ? 0 : 23);
            DUE.same("the tape is kept", Shelves.tape(shelf), tape);
            DUE.same("the members are kept", Shelves.members(shelf), "a= d/ f=12 ");
        }
    }

    /** Promise 16, with the values that are known of this check. */
    private static void check() {
        ArchiveShelf shelf = full();
        String before = Shelves.state(shelf);
        shelf.check();
        DUE.same("nothing else", Shelves.state(shelf), before);
        check("", 0);
        check("\0", 0xD202EF8D);
        check("\u00ff", 0xFF000000);
        check("a", 0xE8B7BE43);
        check("123456789", 0xCBF43926);
        check("\u00ff\u00ff\u00ff\u00ff", -1);
    }

    private static void check(String text, int want) {
        ArchiveShelf shelf = new ArchiveShelf();
        Shelves.type(shelf, text);
        DUE.same("check of " + text.length(), shelf.check(), want);
    }

    /** Promise 17: "they would be more than 20000". */
    private static void feed() {
        ArchiveShelf shelf = new ArchiveShelf();
        for (int i = 1; i <= 1000; i++) {
            shelf.feed(-1, LEAST, MOST, i, 0x80);
        }
        DUE.same("20000", shelf.count(2), 20000);
        DUE.same("the first", shelf.at(0, 8), 0xFFFFFFFF80000000L);
        DUE.same("the last", shelf.at(19992, 8), 0x000003E800000080L);
        DUE.refused("feed at 20000", shelf, UOE, () -> shelf.feed(1, 1, 1, 1, 1));
        for (int n : new int[] {19999, 19981}) {
            shelf.end(n);
            DUE.refused("feed at " + n, shelf, UOE, () -> shelf.feed(1, 1, 1, 1, 1));
        }
        shelf.end(19980);
        DUE.same("feed at 19980", shelf.feed(1, 1, 1, 1, 1), 20000);
        shelf.end(19979);
        DUE.same("feed at 19979", shelf.feed(1, 1, 1, 1, 1), 19999);
        shelf.end(0);
        DUE.same("feed at 0", shelf.feed(0x01020304, 5, 6, 7, 8), 20);
        DUE.same("each number's highest first", shelf.at(0, 8), 0x0102030400000005L);
    }

    /** Promise 18: "it has not so many, or n is below 0". */
    private static void end() {
        for (int n : new int[] {-1, 0, 1, 19, 20, 21, 20000, 20001, LEAST, MOST}) {
            ArchiveShelf shelf = full();
            shelf.end(0);
            shelf.feed(1, 2, 3, 4, 5);
            byte[] tape = Shelves.tape(shelf);
            if (n < 0 || n > 20) {
                DUE.refused("end " + n + " of 20", shelf, IAE, () -> shelf.end(n));
            } else {
                shelf.end(n);
                DUE.same("end " + n + " of 20", Shelves.tape(shelf), Arrays.copyOf(tape, n));
            }
        }
        ArchiveShelf shelf = new ArchiveShelf();
        DUE.refused("end 1 of 0", shelf, IAE, () -> shelf.end(1));
        shelf.end(0);
        DUE.same("end 0 of 0", shelf.count(2), 0);
    }

    /** Promise 19: "v is not 0 .. 255"; the place is named first. */
    private static void poke() {
        ArchiveShelf shelf = full();
        for (int i : new int[] {0, 3}) {
            int old = "tape".charAt(i);
            for (int v : new int[] {0, 1, 254, 255}) {
                DUE.same("poke " + i + " " + v, shelf.poke(i, v), old);
                DUE.same("poked", shelf.at(i, 1), v);
                old = v;
            }
            for (int v : new int[] {-1, 256, 257, LEAST, MOST}) {
                DUE.refused("poke " + i + " " + v, shelf, IAE, () -> shelf.poke(i, v));
            }
        }
        for (int i : new int[] {-1, 4, 5, LEAST, MOST}) {
            DUE.refused("poke " + i, shelf, IOOBE, () -> shelf.poke(i, 0));
            DUE.refused("poke " + i + " and no byte", shelf, IOOBE, () -> shelf.poke(i, -1));
        }
        shelf.end(3);
        DUE.refused("poke what is kept no more", shelf, IOOBE, () -> shelf.poke(3, 0));
        for (int i = 0; i < 999; i++) {
            shelf.feed(0, 0, 0, 0, 0);
        }
        DUE.same("poke the last of many", shelf.poke(19982, 9), 0);
        DUE.refused("poke behind it", shelf, IOOBE, () -> shelf.poke(19983, 9));
    }

    /** Promise 20: "n is not 1 .. 8"; "they are not there". */
    private static void at() {
        ArchiveShelf shelf = full();
        Shelves.feed(shelf, Shelves.row(0xF1, 2, 3, 4, 5, 6, 7, 8, 0x89));
        long[] firsts = {0xF1L, 0xF102L, 0xF10203L, 0xF1020304L, 0xF102030405L, 0xF10203040506L, 0xF1020304050607L,
            0xF102030405060708L};
        for (int n = 1; n <= 8; n++) {
            int width = n;
            DUE.same("at 0 " + n, shelf.at(0, n), firsts[n - 1]);
            DUE.same("at the last " + n, shelf.at(9 - n, n) & 255, 0x89);
            for (int i : new int[] {-1, 9 - n + 1, 9, 10, LEAST, MOST, MOST - 7}) {
                DUE.refused("at " + i + " " + n, shelf, IOOBE, () -> shelf.at(i, width));
            }
        }
        for (int n : new int[] {-1, 0, 9, 10, LEAST, MOST}) {
            DUE.refused("at 0, n " + n, shelf, IAE, () -> shelf.at(0, n));
            DUE.refused("at -1, n " + n, shelf, IAE, () -> shelf.at(-1, n));
            DUE.refused("at 9, n " + n, shelf, IAE, () -> shelf.at(9, n));
        }
        for (int size = 0; size < 8; size++) {
            int more = size + 1;
            shelf.end(size);
            DUE.refused("at 0, " + more + " of " + size, shelf, IOOBE, () -> shelf.at(0, more));
            Shelves.feed(shelf, Shelves.row(0xF1, 2, 3, 4, 5, 6, 7, 8, 0x89));
        }
    }

    /** Promise 21. */
    private static void count() {
        ArchiveShelf shelf = full();
        DUE.same("members", shelf.count(0), 3);
        DUE.same("bytes of the buffer", shelf.count(1), 6);
        DUE.same("bytes of the tape", shelf.count(2), 4);
        for (int what : new int[] {-1, -2, 3, 4, LEAST, MOST}) {
            DUE.refused("count " + what, shelf, IOOBE, () -> shelf.count(what));
        }
    }
}
