import java.util.Arrays;

/** Part 2, DIGITS: each sentence at its edges, with the place of each FAULT. */
public final class DigitEdgesTest {
    private static final Due DUE = new Due();
    // Each head under test stands behind a first member, so that p is not 0.
    private static final byte[] FIRST = Cpio.file(1, "first", "1");
    private static final int P = FIRST.length;

    public static void main(String[] args) {
        aHeadLiesAtP();
        mark();
        digits();
        namesLength();
        namesBytesAndTheir0();
        trailersName();
        trailersSize();
        behindTheTrailer();
        sorts();
        checks();
        sizes();
        theName();
        upToAMultipleOf4();
        inTheWay();
        DUE.close();
    }

    private static void fault(String what, byte[] tape, int number, int place) {
        Shelves.fault(DUE, what, 1, tape, number, place);
    }

    private static void sound(String what, byte[] tape, String members) {
        Shelves.sound(DUE, what, 1, tape, members);
    }

    private static byte[] second(byte[]... rows) {
        return Shelves.join(FIRST, Shelves.join(rows), Cpio.end());
    }

    private static String eight(long number) {
        return String.format("%08x", number);
    }

    /** "A head of 110 bytes lies at p (1)." */
    private static void aHeadLiesAtP() {
        byte[] bad = new byte[110];
        for (int n : new int[] {0, 1, 108, 109}) {
            fault("no head, cut to " + n, Arrays.copyOf(bad, n), 1, n);
            fault("a head, cut to " + n, Arrays.copyOf(Cpio.end(), n), 1, n);
            fault("behind a member, cut to " + n, Shelves.join(FIRST, Arrays.copyOf(bad, n)), 1, P + n);
        }
        fault("no head of 110", bad, 3, 0);
        fault("no head of 110 behind a member", Shelves.join(FIRST, bad), 3, P);
        fault("a head of 110", Arrays.copyOf(Cpio.end(), 110), 1, 110);
    }

    /** "0, 6: 48 55 48 55 48 49 (3, at the first byte that is not so)". */
    private static void mark() {
        byte[] file = Cpio.file(2, "ab", "c");
        for (int i = 0; i < 6; i++) {
            for (int step : new int[] {-1, 1, 64}) {
                fault("mark " + i + " by " + step, second(Zip.with(file, i, file[i] + step)), 3, P + i);
            }
        }
        fault("the first of two", second(Cpio.with(file, 2, "1800")), 3, P + 2);
        fault("mark before digits", second(Cpio.with(file, 5, "2g")), 3, P + 5);
    }

    /** "then 13 numbers of eight hexadecimal digits (48 .. 57, 97 .. 102, 65 .. 70; 6, at the first byte that is none)". */
    private static void digits() {
        byte[] file = Cpio.file(2, "ab", "c");
        for (int i = 6; i < 110; i++) {
            for (int bad : new int[] {0, 32, 47, 58, 64, 71, 96, 103, 255}) {
                fault("digit " + i + " is " + bad, second(Zip.with(file, i, bad)), 6, P + i);
            }
        }
        int[] free = {6, 22, 30, 38, 46, 62, 70, 78, 86};
        for (int place : free) {
            for (int i : new int[] {place, place + 7}) {
                for (int good : new int[] {48, 57, 65, 70, 97, 102}) {
                    sound("digit " + i + " is " + good, second(Zip.with(file, i, good)), "first=1 ab=c ");
                }
            }
        }
        fault("the first of two", second(Zip.with(Zip.with(file, 109, 'g'), 30, ' ')), 6, P + 30);
        for (int v = 0; v < 256; v++) {
            boolean digit = "0123456789abcdefABCDEF".indexOf(v) >= 0;
            byte[] tape = second(Zip.with(file, 50, v));
            if (digit) {
                sound("digit " + v, tape, "first=1 ab=c ");
            } else {
                fault("digit " + v, tape, 6, P + 50);
            }
        }
    }

    /** "94, 8: the name's length with a 0, 1 .. 100 (10)". */
    private static void namesLength() {
        byte[] file = Cpio.file(2, "ab", "");
        for (long n : new long[] {0, 101, 102, 255, 256 + 3, 65536 + 3, 0x7fffffffL, 0x80000000L, 0x80000003L,
            0xffffffffL}) {
            fault("length " + n, second(Cpio.with(file, 94, eight(n))), 10, P + 94);
        }
        fault("length 1", second(Cpio.file(2, "", "")), 10, P + 110);
        sound("length 2", second(Cpio.file(2, "n", "")), "first=1 n= ");
        sound("length 91", second(Cpio.file(2, "n".repeat(90), "")), "first=1 " + "n".repeat(90) + "= ");
        fault("length 92", second(Cpio.file(2, "n".repeat(91), "")), 10, P + 110);
        fault("length 99", second(Cpio.file(2, "n".repeat(98), "")), 10, P + 110);
        fault("length 100", second(Cpio.file(2, "n".repeat(99), "")), 10, P + 110);
        fault("length 101", second(Cpio.file(2, "n".repeat(100), "")), 10, P + 94);
        fault("length before the bytes that lack", Cpio.with(Arrays.copyOf(file, 110), 94, eight(101)), 10, 94);
    }

    /** "these bytes lie behind the head (1), the last one is 0 (10, at it)". */
    private static void namesBytesAndTheir0() {
        byte[] file = Cpio.file(2, "abc", "");
        for (int n : new int[] {0, 1, 2, 3}) {
            fault("of 4 there are " + n, Shelves.join(FIRST, Arrays.copyOf(file, 110 + n)), 1, P + 110 + n);
        }
        for (int bad : new int[] {1, 32, 48, 255}) {
            fault("the last one is " + bad, second(Zip.with(file, 113, bad)), 10, P + 113);
        }
        fault("a 0 before it", second(Cpio.with(file, 111, "\0")), 10, P + 110);
        fault("length 1, no 0", second(Cpio.with(Cpio.file(2, "", ""), 110, "x")), 10, P + 110);
        fault("the 0 before the sort", second(Cpio.with(Zip.with(file, 113, 1), 14, eight(0))), 10, P + 113);
        byte[] longest = Cpio.file(2, "n".repeat(99), "");
        fault("of 100 there are 99", Shelves.join(FIRST, Arrays.copyOf(longest, 209)), 1, P + 209);
        fault("the last of 100", second(Zip.with(longest, 209, 1)), 10, P + 209);
    }

    /** "If the others are TRAILER!!!". */
    private static void trailersName() {
        sound("trailer", Cpio.end(), "");
        for (String name : new String[] {"TRAILER!!", "TRAILER!!!!", "RAILER!!!", "TRAILER!!?", "SRAILER!!!", "trailer!!!",
            "TRAILER!!\"", "TRAILER!!/!", "a/TRAILER!!!", "TRAILER!!!/a"}) {
            sound("a member " + name, second(Cpio.file(2, name, "b")), "first=1 " + name + "=b ");
            sound("a directory " + name, second(Cpio.directory(2, name)), "first=1 " + name + "/ ");
        }
        fault("with a 0 more", second(Cpio.file(2, "TRAILER!!!\0", "")), 10, P + 110);
        // "so a member of that name can be written in this kind, but not read again".
        ArchiveShelf shelf = new ArchiveShelf();
        Shelves.file(shelf, "a", "1");
        Shelves.file(shelf, "TRAILER!!!", "");
        Shelves.file(shelf, "b", "2");
        byte[] want = Shelves.join(Cpio.file(1, "a", "1"), Cpio.file(2, "TRAILER!!!", ""), Cpio.file(3, "b", "2"),
                Cpio.end());
        DUE.same("written", shelf.write(1, false), want.length);
        DUE.same("written", Shelves.tape(shelf), want);
        fault("a file of that name", want, 2, 116 + 124);
        fault("a file of that name with a byte", Shelves.join(Cpio.file(1, "TRAILER!!!", "x"), Cpio.end()), 7, 54);
        fault("a directory of that name", Shelves.join(Cpio.directory(1, "TRAILER!!!"), Cpio.end()), 2, 124);
        DUE.same("in kind 0", shelf.write(0, false), shelf.count(2));
        DUE.same("it can be read", shelf.read(0), 3);
        DUE.same("in kind 2", shelf.write(2, false), shelf.count(2));
        DUE.same("it can be read", shelf.read(2), 3);
    }

    /** "54, 8, the SIZE, is 0 (7)". */
    private static void trailersSize() {
        for (long n : new long[] {1, 2, 400, 401, 0x80000000L, 0xffffffffL}) {
            fault("size " + n, Cpio.with(Cpio.end(), 54, eight(n)), 7, 54);
            fault("size " + n + " before what is not 0",
                    Shelves.join(FIRST, Cpio.with(Cpio.end(), 54, eight(n)), Shelves.row(1)), 7, P + 54);
        }
        // What is told of members alone is not looked at here.
        for (long mode : new long[] {0x8000, 0x4000, 0x1000, 0xffffffffL}) {
            sound("mode " + mode, Cpio.with(Cpio.end(), 14, eight(mode)), "");
        }
        sound("check", Cpio.with(Cpio.end(), 102, eight(1)), "");
    }

    /** "and all behind, to the tape's end, are 0 (2, at the first that is not): that is the end". */
    private static void behindTheTrailer() {
        byte[] trailer = Arrays.copyOf(Cpio.end(), 121);
        for (int n : new int[] {0, 1, 2, 3, 4, 5, 391}) {
            sound(n + " behind", Shelves.join(trailer, new byte[n]), "");
            sound(n + " behind a member's and it", Shelves.join(FIRST, trailer, new byte[n]), "first=1 ");
        }
        sound("up to 20000", Shelves.join(trailer, new byte[20000 - 121]), "");
        for (int i : new int[] {121, 122, 123, 124, 125, 199}) {
            fault("not 0: " + i, Zip.with(Arrays.copyOf(trailer, 200), i, 1), 2, i);
            byte[] two = Zip.with(Zip.with(Arrays.copyOf(trailer, 200), i, 255), 199, 1);
            fault("the first of two: " + i, Shelves.join(FIRST, two), 2, P + i);
        }
        fault("the 20000th", Zip.with(Arrays.copyOf(trailer, 20000), 19999, 1), 2, 19999);
        fault("two trailers", Shelves.join(Cpio.end(), Cpio.end()), 2, 124);
        fault("no trailer", FIRST, 1, P);
    }

    /** "14, 8: its bits 12 .. 15 are 8: a file; 4: a directory; else 8." */
    private static void sorts() {
        byte[] member = Cpio.file(2, "m", "");
        for (int sort = 0; sort < 16; sort++) {
            for (long others : new long[] {0, 0x0fff, 0x10000, 0xffff0fffL}) {
                byte[] tape = second(Cpio.with(member, 14, eight(others + 0x1000L * sort)));
                if (sort == 8 || sort == 4) {
                    sound("sort " + sort, tape, "first=1 m" + (sort == 8 ? "= " : "/ "));
                } else {
                    fault("sort " + sort, tape, 8, P + 14);
                }
            }
        }
        fault("bits 16 .. 19", second(Cpio.with(member, 14, eight(0x80000))), 8, P + 14);
        fault("bits 8 .. 11", second(Cpio.with(member, 14, eight(0x800))), 8, P + 14);
    }

    /** "102, 8 is 0 (4)." */
    private static void checks() {
        for (long check : new long[] {1, 2, 0x10, 0x10000000L, 0x80000000L, 0xffffffffL}) {
            fault("check " + check, second(Cpio.with(Cpio.file(2, "f", "1"), 102, eight(check))), 4, P + 102);
            fault("check of a directory", second(Cpio.with(Cpio.directory(2, "d"), 102, eight(check))), 4, P + 102);
        }
        byte[] both = Cpio.with(Cpio.with(Cpio.file(2, "f", "1"), 102, eight(1)), 14, eight(0));
        fault("the sort before it", second(both), 8, P + 14);
        both = Cpio.with(Cpio.with(Cpio.file(2, "f", "1"), 102, eight(1)), 54, eight(401));
        fault("it before the size", second(both), 4, P + 102);
    }

    /** "The SIZE: at most 400, for a directory 0 (7; as numbers without sign)." */
    private static void sizes() {
        for (int n : new int[] {0, 1, 2, 3, 4, 5, 398, 399, 400}) {
            String body = "b".repeat(n);
            sound("size " + n, second(Cpio.file(2, "f", body)), "first=1 f=" + body + " ");
            sound("size in capitals " + n, second(Cpio.with(Cpio.file(2, "f", body), 54, eight(n).toUpperCase())),
                    "first=1 f=" + body + " ");
        }
        for (long n : new long[] {401, 402, 0x7fffffffL, 0x80000000L, 0x80000001L, 0xfffffe70L, 0xffffffffL}) {
            fault("size " + n, second(Cpio.with(Cpio.file(2, "f", "b".repeat(401)), 54, eight(n))), 7, P + 54);
        }
        for (long n : new long[] {1, 4, 400, 0x80000000L, 0xffffffffL}) {
            fault("directory of " + n, second(Cpio.with(Cpio.directory(2, "d"), 54, eight(n))), 7, P + 54);
        }
        fault("size before the name", second(Cpio.with(Cpio.file(2, "f/", ""), 54, eight(401))), 7, P + 54);
    }

    /** "The name (10, at its first byte)." */
    private static void theName() {
        for (String bad : new String[] {"f/", "/f", "f//g", ".", "..", "f/.", " ", "f g", "f\u007f", "f\u00ff"}) {
            fault("file " + bad, second(Cpio.file(2, bad, "")), 10, P + 110);
            fault("directory " + bad, second(Cpio.directory(2, bad)), 10, P + 110);
        }
        byte[] cut = Arrays.copyOf(Cpio.file(2, "f/", "bytes"), 113);
        fault("the name before its bytes", Shelves.join(FIRST, cut), 10, P + 110);
    }

    /**
     * "Bytes up to a multiple of 4 (1; places of the tape; not looked at), the SIZE bytes, bytes up to a
     * multiple of 4 (1; likewise)."
     */
    private static void upToAMultipleOf4() {
        for (int name = 1; name <= 5; name++) {
            for (int size = 0; size <= 5; size++) {
                String title = "n".repeat(name);
                String body = "b".repeat(size);
                byte[] file = Cpio.file(2, title, body);
                sound(title + "=" + body, second(file), "first=1 " + title + "=" + body + " ");
                int behind = 110 + name + 1;
                for (int n = behind; n < file.length; n++) {
                    fault(title + "=" + body + " cut to " + n, Shelves.join(FIRST, Arrays.copyOf(file, n)), 1, P + n);
                }
                fault("all of it, and no head", Shelves.join(FIRST, file), 1, P + file.length);
                int data = (behind + 3) / 4 * 4;
                Arrays.fill(file, behind, data, (byte) 255);
                Arrays.fill(file, data + size, file.length, (byte) 1);
                sound("not looked at", second(file), "first=1 " + title + "=" + body + " ");
            }
        }
    }

    /** "11: a member is IN THE WAY, or the 17th on the shelf"; "11, at p. p goes on behind them." */
    private static void inTheWay() {
        fault("under a file", second(Cpio.file(2, "first/a", "1")), 11, P);
        fault("directory under a file", second(Cpio.directory(2, "first/a")), 11, P);
        byte[] under = Cpio.file(2, "a/b", "1");
        fault("file over others", second(under, Cpio.file(3, "a", "1")), 11, P + under.length);
        sound("directory over others", second(under, Cpio.directory(3, "a")), "first=1 a/b=1 a/ ");
        byte[] cut = Cpio.file(2, "first/a", "1");
        fault("bytes come before that", Shelves.join(FIRST, Arrays.copyOf(cut, cut.length - 1)), 1,
                P + cut.length - 1);
        fault("that comes before the next head", Shelves.join(FIRST, cut), 11, P);
        byte[] many = {};
        StringBuilder members = new StringBuilder();
        for (int i = 1; i <= 16; i++) {
            many = Shelves.join(many, i % 2 == 0 ? Cpio.directory(i, "m" + i) : Cpio.file(i, "m" + i, "" + i));
            members.append("m").append(i).append(i % 2 == 0 ? "/ " : "=" + i + " ");
            sound(i + " members", Shelves.join(many, Cpio.end()), members.toString());
        }
        fault("the 17th", Shelves.join(many, Cpio.directory(17, "x"), Cpio.end()), 11, many.length);
        sound("one of the 16 again", Shelves.join(many, Cpio.directory(17, "m16"), Cpio.end()), members.toString());
    }
}
