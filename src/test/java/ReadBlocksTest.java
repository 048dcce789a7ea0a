import java.util.Arrays;

/** Promises 12 and 13 for kind 0. */
public final class ReadBlocksTest {
    private static final Due DUE = new Due();

    public static void main(String[] args) {
        lengths();
        endOfArchive();
        heads();
        order();
        names();
        bodies();
        shelf();
        faultCall();
        DUE.close();
    }

    private static void fault(String what, byte[] tape, int number, int place) {
        Shelves.fault(DUE, what, 0, tape, number, place);
    }

    private static void sound(String what, byte[] tape, String members) {
        Shelves.sound(DUE, what, 0, tape, members);
    }

    /** Behind a first file of 1024 bytes in all, so that places of the head are counted from there. */
    private static byte[] second(byte[] head) {
        return Shelves.join(Tar.file("first", "1"), head, Tar.end());
    }

    private static void lengths() {
        byte[] archive = Shelves.join(Tar.file("a", "bc"), Tar.directory("d"), Tar.end());
        sound("whole", archive, "a=bc d/ ");
        for (int n : new int[] {0, 1, 511, 512, 1023, 1024, 1535, 1536, 2047, 2048, 2559}) {
            fault("cut to " + n, Arrays.copyOf(archive, n), 1, n);
        }
    }

    private static void endOfArchive() {
        sound("nothing", Tar.end(), "");
        sound("more zeros", new byte[1500], "");
        fault("one block", new byte[512], 1, 512);
        fault("a byte lacks", new byte[1023], 1, 1023);
        byte[] row = new byte[1100];
        row[600] = 1;
        row[1099] = 2;
        fault("not all zeros", row, 2, 600);
        row[600] = 0;
        fault("not all zeros behind", row, 2, 1099);
        fault("a byte lacks before one that is not 0", Arrays.copyOf(Zip.with(row, 600, 1), 1023), 1, 1023);
        byte[] files = Shelves.join(Tar.file("a", ""), new byte[512], Tar.file("b", ""), Tar.end());
        fault("a head behind one empty block", files, 2, 1024);
    }

    private static void heads() {
        byte[] head = Tar.head("f", 0, '0');
        for (int i = 148; i < 154; i++) {
            fault("sum 7", second(Zip.with(head, i, '8')), 3, 1024 + i);
            fault("sum /", second(Zip.with(head, i, '/')), 3, 1024 + i);
        }
        fault("sum without 0", second(Zip.with(head, 154, 32)), 3, 1024 + 154);
        fault("sum without space", second(Zip.with(head, 155, 0)), 3, 1024 + 155);
        fault("other sum", second(Zip.with(head, 153, head[153] ^ 1)), 4, 1024 + 148);
        fault("other byte", second(Zip.with(head, 511, 1)), 4, 1024 + 148);
        byte[] mark = {117, 115, 116, 97, 114, 0, 48, 48};
        for (int i = 0; i < 8; i++) {
            fault("mark " + i, second(Tar.with(head, 257 + i, mark[i] + 1)), 5, 1024 + 257 + i);
        }
        int[] places = {100, 108, 116, 124, 136};
        int[] widths = {8, 8, 8, 12, 12};
        for (int f = 0; f < places.length; f++) {
            for (int i = 0; i < widths[f]; i++) {
                int bad = i == widths[f] - 1 ? 48 : i % 2 == 0 ? 56 : 47;
                fault("octal " + places[f] + " " + i, second(Tar.with(head, places[f] + i, bad)), 6,
                        1024 + places[f] + i);
            }
        }
        for (int sort : new int[] {1, 49, 52, 54, 120, 255}) {
            fault("sort " + sort, second(Tar.with(head, 156, sort)), 8, 1024 + 156);
        }
        sound("sort 0", Shelves.join(Tar.head("f", 0, 0), Tar.end()), "f= ");
        fault("401", second(Tar.head("f", 401, '0')), 7, 1024 + 124);
        fault("most", second(Tar.head("f", 077777777777L, '0')), 7, 1024 + 124);
        fault("2 to 32", second(Tar.head("f", 1L << 32, 0)), 7, 1024 + 124);
        fault("directory of 1", second(Tar.head("f/", 1, '5')), 7, 1024 + 124);
        sound("other bytes are not looked at", Shelves.join(
                Tar.with(Tar.with(Tar.with(head, 157, 200), 300, 1), 500, 7), Tar.end()), "f= ");
        sound("numbers that are not looked at", Shelves.join(
                Tar.with(Tar.with(Tar.with(head, 100, '7'), 110, '7'), 136, '7'), Tar.end()), "f= ");
    }

    /** Of two faults in one head the one told first in the document. */
    private static void order() {
        byte[] bad = Tar.head("", 401, '0');
        fault("size before name", second(bad), 7, 1024 + 124);
        bad = Tar.with(bad, 156, 49);
        fault("sort before size", second(bad), 8, 1024 + 156);
        bad = Tar.with(bad, 136, 0);
        fault("octal before sort", second(bad), 6, 1024 + 136);
        bad = Tar.with(bad, 100, 0);
        fault("first octal first", second(bad), 6, 1024 + 100);
        bad = Tar.with(bad, 257, 0);
        fault("mark before octal", second(bad), 5, 1024 + 257);
        bad = Zip.with(bad, 511, 1);
        fault("sum before mark", second(bad), 4, 1024 + 148);
        bad = Zip.with(bad, 148, 'x');
        fault("sum's digits before sum", second(bad), 3, 1024 + 148);
    }

    private static void names() {
        String ninety = "p".repeat(40) + "/" + "q".repeat(49);
        sound("90 bytes", Shelves.join(Tar.file(ninety, "x"), Tar.end()), ninety + "=x ");
        fault("91 bytes", second(Tar.head(ninety + "q", 0, '0')), 10, 1024);
        fault("100 bytes", second(Tar.head("n".repeat(100), 0, '0')), 10, 1024);
        fault("none", second(Tar.head("", 0, '0')), 10, 1024);
        fault("file with slash", second(Tar.head("f/", 0, '0')), 10, 1024);
        fault("directory with two", second(Tar.head("f//", 0, '5')), 10, 1024);
        fault("slash alone", second(Tar.head("/", 0, '5')), 10, 1024);
        fault("dots", second(Tar.head("a/../b", 0, '0')), 10, 1024);
        fault("space", second(Tar.head("a b", 0, '0')), 10, 1024);
        sound("directory without slash", Shelves.join(Tar.head("d", 0, '5'), Tar.end()), "d/ ");
        sound("directory with slash", Shelves.join(Tar.head("d/", 0, '5'), Tar.end()), "d/ ");

        byte[] head = Tar.head("name", 0, '0');
        Tar.text(head, 345, "front/part");
        sound("front", Shelves.join(Tar.summed(head), Tar.end()), "front/part/name= ");
        head = Tar.head("name", 0, '0');
        Tar.text(head, 345, "f\u0000g");
        sound("front to its 0", Shelves.join(Tar.summed(head), Tar.end()), "f/name= ");
        head = Tar.head("", 0, '5');
        Tar.text(head, 345, "front");
        sound("directory with front alone", Shelves.join(Tar.summed(head), Tar.end()), "front/ ");
        fault("file with front alone", second(Tar.with(head, 156, '0')), 10, 1024);
        head = Tar.head("name", 0, '0');
        Tar.text(head, 345, "front/");
        fault("front with slash", second(Tar.summed(head)), 10, 1024);
        head = Tar.head("n".repeat(100), 0, '0');
        Tar.text(head, 345, "f".repeat(155));
        fault("all of both", second(Tar.summed(head)), 10, 1024);
        head = Tar.head("n".repeat(44), 0, '0');
        Tar.text(head, 345, "f".repeat(45));
        sound("90 in all", Shelves.join(Tar.summed(head), Tar.end()), "f".repeat(45) + "/" + "n".repeat(44) + "= ");
        Tar.text(head, 345, "f".repeat(46));
        fault("91 in all", second(Tar.summed(head)), 10, 1024);
        head = Tar.head("a\u0000b", 0, '0');
        sound("name to its 0", Shelves.join(head, Tar.end()), "a= ");
    }

    private static void bodies() {
        byte[] file = Tar.file("f", "body");
        Arrays.fill(file, 516, 1024, (byte) 9);
        sound("rest is not looked at", Shelves.join(file, Tar.end()), "f=body ");
        sound("400", Shelves.join(Tar.file("f", "b".repeat(400)), Tar.end()), "f=" + "b".repeat(400) + " ");
        byte[] cut = Arrays.copyOf(Shelves.join(Tar.file("first", "1"), file), 1024 + 1023);
        fault("rest lacks", cut, 1, 2047);
        fault("name before bytes", Arrays.copyOf(Tar.head("f/", 5, '0'), 512), 10, 0);
        fault("bytes before in the way", Shelves.join(Tar.file("a", "1"), Arrays.copyOf(Tar.head("a/b", 5, '0'), 513)),
                1, 1024 + 513);
    }

    private static void shelf() {
        sound("again", Shelves.join(Tar.file("a", "1"), Tar.file("b", "2"), Tar.file("a", "3"), Tar.end()), "b=2 a=3 ");
        sound("file, then directory", Shelves.join(Tar.file("a", "1"), Tar.directory("a"), Tar.file("a/b", ""),
                Tar.end()), "a/ a/b= ");
        fault("under a file", Shelves.join(Tar.file("a", "1"), Tar.file("a/b", "2"), Tar.end()), 11, 1024);
        fault("file over others", Shelves.join(Tar.file("a/b", "1"), Tar.file("a", "2"), Tar.end()), 11, 1024);
        fault("file for directory with others", Shelves.join(Tar.directory("a"), Tar.file("a/b", ""),
                Tar.file("a", ""), Tar.end()), 11, 1024);
        byte[] many = new byte[0];
        StringBuilder members = new StringBuilder();
        for (int i = 0; i < 16; i++) {
            many = Shelves.join(many, Tar.file("m" + i, ""));
            members.append("m").append(i).append("= ");
        }
        sound("16", Shelves.join(many, Tar.end()), members.toString());
        fault("17", Shelves.join(many, Tar.file("x", ""), Tar.end()), 11, 16 * 512);
        sound("16, one again", Shelves.join(many, Tar.file("m0", ""), Tar.end()), members.substring(4) + "m0= ");
        // The old shelf does not count: this one has a file in the way of it.
        sound("old members are gone", Shelves.join(Tar.file("old/er", ""), Tar.end()), "old/er= ");
    }

    private static void faultCall() {
        ArchiveShelf shelf = new ArchiveShelf();
        Shelves.feed(shelf, new byte[7]);
        DUE.same("read", shelf.read(0), -1);
        for (int what : new int[] {2, -1, Integer.MAX_VALUE, Integer.MIN_VALUE}) {
            DUE.refused("fault " + what, shelf, IndexOutOfBoundsException.class, () -> shelf.fault(what));
        }
        for (int kind : new int[] {3, -1, Integer.MAX_VALUE, Integer.MIN_VALUE}) {
            DUE.refused("read " + kind, shelf, IllegalArgumentException.class, () -> shelf.read(kind));
        }
        shelf.write(1, false);
        shelf.pack();
        DUE.same("kept by other calls", shelf.fault(0), 1);
        DUE.same("kept by other calls", shelf.fault(1), 7);
        shelf.unpack();
        DUE.same("gone with a sound unpack", shelf.fault(0), 0);
        DUE.same("gone with a sound unpack", shelf.fault(1), -1);
    }
}
