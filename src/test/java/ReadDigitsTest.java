import java.util.Arrays;

/** Promises 12 and 13 for kind 1. */
public final class ReadDigitsTest {
    private static final Due DUE = new Due();
    // Behind a first file of this many bytes, so that places of the head are counted from there.
    private static final byte[] FIRST = Cpio.file(1, "first", "1");
    private static final int P = FIRST.length;

    public static void main(String[] args) {
        lengths();
        heads();
        trailer();
        members();
        order();
        names();
        shelf();
        DUE.close();
    }

    private static void fault(String what, byte[] tape, int number, int place) {
        Shelves.fault(DUE, what, 1, tape, number, place);
    }

    private static void sound(String what, byte[] tape, String members) {
        Shelves.sound(DUE, what, 1, tape, members);
    }

    private static byte[] second(byte[] member) {
        return Shelves.join(FIRST, member, Cpio.end());
    }

    private static void lengths() {
        byte[] archive = Shelves.join(FIRST, Cpio.file(2, "ab", "c"), Cpio.directory(3, "d"), Cpio.end());
        sound("whole", archive, "first=1 ab=c d/ ");
        int n = archive.length;
        for (int cut : new int[] {0, 1, 109, 110, 115, 116, 117, P - 1, P, P + 109, P + 110, P + 112, P + 113, P + 116,
                P + 117, P + 119, P + 120, n - 124, n - 15, n - 14, n - 4}) {
            fault("cut to " + cut, Arrays.copyOf(archive, cut), 1, cut);
        }
        sound("without the rest of the trailer", Arrays.copyOf(archive, n - 3), "first=1 ab=c d/ ");
        byte[] rests = Cpio.with(Cpio.with(Cpio.file(2, "abc", "d"), 114, "xy"), 117, "xyz");
        sound("rests are not looked at", second(rests), "first=1 abc=d ");
    }

    private static void heads() {
        byte[] file = Cpio.file(2, "ab", "c");
        for (int i = 0; i < 6; i++) {
            fault("mark " + i, second(Cpio.with(file, i, "2")), 3, P + i);
        }
        for (int i = 6; i < 110; i++) {
            fault("digit " + i, second(Cpio.with(file, i, "g")), 6, P + i);
        }
        for (String bad : new String[] {"/", ":", "@", "G", "`", "\u0000", " "}) {
            fault("digit " + bad, second(Cpio.with(file, 30, bad)), 6, P + 30);
        }
        sound("digits in both cases", second(Cpio.with(Cpio.with(file, 6, "09afAF19"), 14, "ffff8FFF")),
                "first=1 ab=c ");
    }

    private static void trailer() {
        sound("trailer alone", Cpio.end(), "");
        sound("zeros behind", Shelves.join(Cpio.end(), new byte[400]), "");
        fault("not zero behind", Shelves.join(Cpio.end(), new byte[30], Shelves.row(1, 1)), 2, 154);
        fault("not zero in the rest", Cpio.with(Cpio.end(), 122, "x"), 2, 122);
        fault("size", Cpio.with(Cpio.end(), 54, "00000001"), 7, 54);
        fault("size before zeros", Shelves.join(Cpio.with(Cpio.end(), 54, "80000000"), Shelves.row(1)), 7, 54);
        sound("mode and check of the trailer", Cpio.with(Cpio.with(Cpio.end(), 14, "00001000"), 102, "00000001"), "");
        fault("a shorter name is none", Shelves.join(Cpio.file(1, "TRAILER!!", "")), 1, 120);
        sound("member like the trailer", Shelves.join(Cpio.file(1, "TRAILER!!", ""), Cpio.end()), "TRAILER!!= ");
        sound("one as long", Shelves.join(Cpio.file(1, "TRAILER!!?", "1"), Cpio.end()), "TRAILER!!?=1 ");
        sound("another one", Shelves.join(Cpio.file(1, "TRAILER!!!!", ""), Cpio.end()), "TRAILER!!!!= ");
        fault("directory of that name", Shelves.join(Cpio.directory(1, "TRAILER!!!"), Cpio.end()), 2, 124);
    }

    private static void members() {
        byte[] file = Cpio.file(2, "ab", "c");
        for (String mode : new String[] {"000001a4", "00001000", "0000a000", "0000c000", "0000f000", "00080000"}) {
            fault("mode " + mode, second(Cpio.with(file, 14, mode)), 8, P + 14);
        }
        sound("mode above", second(Cpio.with(file, 14, "ffff8000")), "first=1 ab=c ");
        sound("directory above", second(Cpio.with(Cpio.directory(2, "d"), 14, "ffff4fff")), "first=1 d/ ");
        for (String sum : new String[] {"00000001", "80000000", "ffffffff"}) {
            fault("check " + sum, second(Cpio.with(file, 102, sum)), 4, P + 102);
        }
        for (String size : new String[] {"00000191", "80000000", "ffffffff", "80000001"}) {
            fault("size " + size, second(Cpio.with(file, 54, size)), 7, P + 54);
        }
        fault("size of directory", second(Cpio.with(Cpio.directory(2, "d"), 54, "00000001")), 7, P + 54);
        String most = "b".repeat(400);
        sound("size 400", second(Cpio.file(2, "ab", most)), "first=1 ab=" + most + " ");
        for (int size = 10; size < 16; size++) {
            byte[] sized = Cpio.file(2, "ab", "b".repeat(size));
            sound("small letters", second(sized), "first=1 ab=" + "b".repeat(size) + " ");
            sound("capitals", second(Cpio.with(sized, 54, String.format("%08X", size))),
                    "first=1 ab=" + "b".repeat(size) + " ");
        }
        sound("other numbers", second(Cpio.with(Cpio.with(Cpio.with(file, 22, "ffffffffffffffffffffffffffffffff"), 62,
                "ffffffffffffffffffffffffffffffff"), 6, "ffffffff")), "first=1 ab=c ");
    }

    private static void order() {
        byte[] bad = Cpio.file(2, "a b", "");
        fault("name", second(bad), 10, P + 110);
        bad = Cpio.with(bad, 54, "00000191");
        fault("size before name", second(bad), 7, P + 54);
        bad = Cpio.with(bad, 102, "00000001");
        fault("check before size", second(bad), 4, P + 102);
        bad = Cpio.with(bad, 14, "00000000");
        fault("sort before check", second(bad), 8, P + 14);
        bad = Cpio.with(bad, 113, "x");
        fault("last of name before sort", second(bad), 10, P + 113);
        bad = Cpio.with(bad, 94, "00000000");
        fault("name's length before last", second(bad), 10, P + 94);
        bad = Cpio.with(bad, 109, "x");
        fault("digits before name's length", second(bad), 6, P + 109);
        bad = Cpio.with(bad, 5, "2");
        fault("mark before digits", second(bad), 3, P + 5);
        byte[] cut = Arrays.copyOf(Shelves.join(FIRST, Cpio.file(2, "a b", "cdef")), P + 114);
        fault("name before bytes", cut, 10, P + 110);
        cut = Arrays.copyOf(Shelves.join(FIRST, Cpio.file(2, "first/a", "cdef")), P + 121);
        fault("bytes before in the way", cut, 1, P + 121);
    }

    private static void names() {
        for (String length : new String[] {"00000000", "00000065", "80000001", "ffffffff"}) {
            fault("length " + length, second(Cpio.with(Cpio.file(2, "ab", ""), 94, length)), 10, P + 94);
        }
        String ninety = "n".repeat(90);
        sound("90", second(Cpio.file(2, ninety, "x")), "first=1 " + ninety + "=x ");
        fault("91", second(Cpio.file(2, ninety + "n", "x")), 10, P + 110);
        fault("99", second(Cpio.file(2, "n".repeat(99), "x")), 10, P + 110);
        fault("no byte", second(Cpio.file(2, "", "x")), 10, P + 110);
        fault("100 bytes that lack", Arrays.copyOf(second(Cpio.file(2, "n".repeat(99), "x")), P + 209), 1, P + 209);
        fault("no 0 at its end", second(Cpio.with(Cpio.file(2, "abc", ""), 113, "x")), 10, P + 113);
        fault("a 0 inside", second(Cpio.file(2, "a\u0000c", "")), 10, P + 110);
        fault("directory with slash", second(Cpio.directory(2, "d/")), 10, P + 110);
        fault("dots", second(Cpio.directory(2, "..")), 10, P + 110);
    }

    private static void shelf() {
        sound("again", Shelves.join(FIRST, Cpio.file(2, "b", "2"), Cpio.file(3, "first", "3"), Cpio.end()),
                "b=2 first=3 ");
        fault("under a file", second(Cpio.file(2, "first/a", "2")), 11, P);
        fault("directory under a file", second(Cpio.directory(2, "first/a")), 11, P);
        fault("file over others", Shelves.join(Cpio.file(1, "a/b", ""), Cpio.file(2, "a", ""), Cpio.end()), 11, 116);
        byte[] many = new byte[0];
        StringBuilder members = new StringBuilder();
        for (int i = 0; i < 16; i++) {
            many = Shelves.join(many, Cpio.directory(i + 1, "m" + i));
            members.append("m").append(i).append("/ ");
        }
        sound("16", Shelves.join(many, Cpio.end()), members.toString());
        fault("17", Shelves.join(many, Cpio.directory(17, "x"), Cpio.end()), 11, many.length);
        sound("16, one again", Shelves.join(many, Cpio.directory(17, "m0"), Cpio.end()), members.substring(4) + "m0/ ");
    }
}
