import java.util.Arrays;

/** Part 2, BLOCKS: each sentence at its edges, with the place of each FAULT. */
public final class BlockEdgesTest {
    private static final Due DUE = new Due();
    // Each head under test stands behind a first member, so that p is not 0.
    private static final byte[] FIRST = Tar.file("first", "1");
    private static final int P = FIRST.length;

    public static void main(String[] args) {
        aBlockLiesAtP();
        allOfThemAre0();
        moreToTheEnd();
        sumsDigits();
        theSum();
        mark();
        octalFields();
        sorts();
        sizes();
        frontAndName();
        directoriesSlash();
        bytesBehindTheHead();
        inTheWay();
        DUE.close();
    }

    private static void fault(String what, byte[] tape, int number, int place) {
        Shelves.fault(DUE, what, 0, tape, number, place);
    }

    private static void sound(String what, byte[] tape, String members) {
        Shelves.sound(DUE, what, 0, tape, members);
    }

    private static byte[] second(byte[]... rows) {
        return Shelves.join(FIRST, Shelves.join(rows), Tar.end());
    }

    /** "A block of 512 bytes lies at p (1)." */
    private static void aBlockLiesAtP() {
        byte[] nothing = Tar.end();
        for (int n : new int[] {0, 1, 511}) {
            fault("nothing, cut to " + n, Arrays.copyOf(nothing, n), 1, n);
            byte[] noHead = new byte[n];
            Arrays.fill(noHead, (byte) 'x');
            fault("no head, cut to " + n, noHead, 1, n);
            fault("behind a member, " + n, Shelves.join(FIRST, noHead), 1, P + n);
        }
        byte[] noHead = new byte[512];
        Arrays.fill(noHead, (byte) 'x');
        fault("no head of 512", noHead, 3, 148);
        fault("no head of 512 behind a member", Shelves.join(FIRST, noHead), 3, P + 148);
    }

    /** "If all of them are 0 .. Else it is a head." */
    private static void allOfThemAre0() {
        for (int i : new int[] {0, 1, 147, 156, 255, 510, 511}) {
            fault("one is not 0: " + i, Zip.with(Tar.end(), i, 1), 3, 148);
            fault("one is not 0: " + i, Shelves.join(FIRST, Zip.with(Tar.end(), i, 128)), 3, P + 148);
        }
        fault("a digit of the sum is not 0", Zip.with(Tar.end(), 148, '0'), 3, 149);
    }

    /** "from there on there are 512 more (1), and all to the tape's end are 0 (2, at the first that is not)". */
    private static void moreToTheEnd() {
        for (int n : new int[] {512, 513, 1022, 1023}) {
            fault("cut to " + n, new byte[n], 1, n);
            fault("cut to " + n + " behind a member", Shelves.join(FIRST, new byte[n]), 1, P + n);
        }
        fault("lacks before what is not 0", Zip.with(new byte[1023], 600, 1), 1, 1023);
        for (int n : new int[] {1024, 1025, 1536, 2048}) {
            sound("zeros " + n, new byte[n], "");
            sound("zeros " + n + " behind a member", Shelves.join(FIRST, new byte[n]), "first=1 ");
        }
        sound("zeros to 20000", new byte[20000], "");
        for (int i : new int[] {512, 513, 1023, 1024, 1025, 1599}) {
            fault("not 0: " + i, Zip.with(new byte[1600], i, 255), 2, i);
            byte[] two = Zip.with(Zip.with(new byte[1600], i, 1), 1599, 1);
            fault("the first of two: " + i, Shelves.join(FIRST, two), 2, P + i);
        }
        fault("the 20000th is not 0", Zip.with(new byte[20000], 19999, 1), 2, 19999);
        fault("a member behind one block", Shelves.join(new byte[512], FIRST, Tar.end()), 2, 512);
    }

    /** "148, 8: six of 48 .. 55, then 0, then 32 (3, at the first byte that is not so)". */
    private static void sumsDigits() {
        byte[] head = Tar.head("f", 0, '0');
        for (int i = 148; i < 154; i++) {
            for (int bad : new int[] {0, 32, 47, 56, 57, 255}) {
                fault("sum, " + i + " is " + bad, second(Zip.with(head, i, bad)), 3, P + i);
            }
            for (int digit : new int[] {48, 55}) {
                if (head[i] != digit) {
                    fault("sum, " + i + " is " + digit, second(Zip.with(head, i, digit)), 4, P + 148);
                }
            }
        }
        for (int bad : new int[] {1, 32, 48, 255}) {
            fault("sum, 154 is " + bad, second(Zip.with(head, 154, bad)), 3, P + 154);
        }
        for (int bad : new int[] {0, 31, 33, 48, 255}) {
            fault("sum, 155 is " + bad, second(Zip.with(head, 155, bad)), 3, P + 155);
        }
        fault("the first of several", second(Zip.with(Zip.with(head, 155, 0), 151, 'x')), 3, P + 151);
    }

    /** "that number is the sum of all 512 bytes, these eight as 32 each (4)". */
    private static void theSum() {
        byte[] head = Tar.head("f", 0, '0');
        int sum = Integer.parseInt(new String(head, 148, 6), 8);
        for (int other : new int[] {sum - 1, sum + 1, 0, 0777777, sum - 8 * 32, sum + 65536}) {
            byte[] changed = head.clone();
            Tar.text(changed, 148, String.format("%06o", other));
            fault("sum " + other + " for " + sum, second(changed), 4, P + 148);
        }
        for (int i : new int[] {0, 1, 99, 147, 156, 511}) {
            fault("a byte more at " + i, second(Zip.with(head, i, head[i] + 1)), 4, P + 148);
        }
        // Bytes above 127 count as what they are.
        byte[] high = head.clone();
        Arrays.fill(high, 157, 257, (byte) 255);
        Arrays.fill(high, 500, 512, (byte) 128);
        sound("high bytes", second(Tar.summed(high)), "first=1 f= ");
        fault("high bytes, one less", second(Zip.with(Tar.summed(high), 511, 127)), 4, P + 148);
    }

    /** "257, 8: 117 115 116 97 114 0 48 48 (5, at the first byte that is not so)". */
    private static void mark() {
        byte[] head = Tar.head("f", 0, '0');
        for (int i = 257; i < 265; i++) {
            for (int step : new int[] {-1, 1, 32}) {
                fault("mark " + i + " by " + step, second(Tar.with(head, i, head[i] + step)), 5, P + i);
            }
        }
        fault("the first of two", second(Tar.with(Tar.with(head, 264, 0), 262, 32)), 5, P + 262);
        for (int i : new int[] {256, 265}) {
            sound("beside the mark " + i, second(Tar.with(head, i, 200)), "first=1 f= ");
        }
    }

    /** "OCTAL of n bytes: n - 1 bytes of 48 .. 55, then a 0"; "100, 8; 108, 8; 116, 8; 124, 12; 136, 12" (6). */
    private static void octalFields() {
        int[] places = {100, 108, 116, 124, 136};
        int[] widths = {8, 8, 8, 12, 12};
        byte[] head = Tar.head("f", 0, '0');
        for (int f = 0; f < 5; f++) {
            int last = places[f] + widths[f] - 1;
            for (int i = places[f]; i < last; i++) {
                for (int bad : new int[] {0, 32, 47, 56, 255}) {
                    fault("octal, " + i + " is " + bad, second(Tar.with(head, i, bad)), 6, P + i);
                }
                if (places[f] != 124) {
                    sound("octal, " + i + " is 55", second(Tar.with(head, i, 55)), "first=1 f= ");
                }
            }
            for (int bad : new int[] {1, 32, 48, 255}) {
                fault("octal, " + last + " is " + bad, second(Tar.with(head, last, bad)), 6, P + last);
            }
            byte[] two = Tar.with(Tar.with(head, last, 32), places[f] + 2, 56);
            fault("the first of two", second(two), 6, P + places[f] + 2);
        }
        byte[] all = head;
        for (int f = 4; f >= 0; f--) {
            all = Tar.with(all, places[f] + 1, 56);
            fault("fields in their order", second(all), 6, P + places[f] + 1);
        }
        for (int i : new int[] {99, 157, 265, 328, 329, 336, 344}) {
            sound("no field " + i, second(Tar.with(head, i, 200)), "first=1 f= ");
        }
    }

    /** "156: 48 or 0: a file; 53: a directory; else 8." */
    private static void sorts() {
        for (int v = 0; v < 256; v++) {
            byte[] tape = second(Tar.head("m", 0, v));
            if (v == 48 || v == 0) {
                sound("sort " + v, tape, "first=1 m= ");
            } else if (v == 53) {
                sound("sort " + v, tape, "first=1 m/ ");
            } else {
                fault("sort " + v, tape, 8, P + 156);
            }
        }
    }

    /** "124, 12, the SIZE: at most 400, for a directory 0 (7)." */
    private static void sizes() {
        for (int sort : new int[] {'0', 0}) {
            for (int n : new int[] {0, 1, 399, 400}) {
                String body = "b".repeat(n);
                byte[] rest = new byte[(512 - n % 512) % 512];
                sound("size " + n, second(Tar.head("f", n, sort), Shelves.bytes(body), rest),
                        "first=1 f=" + body + " ");
            }
            for (long n : new long[] {401, 402, 511, 512, 513, 1L << 31, 1L << 32, (1L << 32) + 400, (1L << 33) - 1}) {
                fault("size " + n, second(Tar.head("f", n, sort), new byte[512]), 7, P + 124);
            }
        }
        sound("directory of 0", second(Tar.head("d/", 0, '5')), "first=1 d/ ");
        for (long n : new long[] {1, 2, 400, 401, 1L << 32}) {
            fault("directory of " + n, second(Tar.head("d/", n, '5'), new byte[512]), 7, P + 124);
        }
    }

    private static byte[] named(String front, String name, int sort) {
        byte[] head = Tar.head("", 0, sort);
        Tar.text(head, 345, front);
        Tar.text(head, 0, name);
        return Tar.summed(head);
    }

    /**
     * "The name: bytes from 345 on up to the first 0, 155 at most, and a slash, if there are any; then
     * bytes from 0 on, up to the first 0, 100 at most (10, at p)".
     */
    private static void frontAndName() {
        sound("no front", second(named("", "n", '0')), "first=1 n= ");
        sound("front of 1", second(named("f", "n", '0')), "first=1 f/n= ");
        for (int n : new int[] {1, 44, 87, 88, 89, 90, 91, 154, 155}) {
            String front = "f".repeat(n);
            byte[] tape = second(named(front, "n", '0'));
            if (n + 2 <= 90) {
                sound("front of " + n, tape, "first=1 " + front + "/n= ");
            } else {
                fault("front of " + n, tape, 10, P);
            }
        }
        for (int n : new int[] {1, 89, 90, 91, 99, 100}) {
            String name = "n".repeat(n);
            byte[] tape = second(named("", name, '0'));
            if (n <= 90) {
                sound("name of " + n, tape, "first=1 " + name + "= ");
            } else {
                fault("name of " + n, tape, 10, P);
            }
        }
        for (int n : new int[] {87, 88, 89}) {
            String name = "n".repeat(n);
            byte[] tape = second(named("f", name, '0'));
            if (n + 2 <= 90) {
                sound("f, a slash and " + n, tape, "first=1 f/" + name + "= ");
            } else {
                fault("f, a slash and " + n, tape, 10, P);
            }
        }
        sound("what stands behind the first 0", second(named("f\0g/h", "n\0m/", '0')), "first=1 f/n= ");
        sound("a front that begins with 0", second(named("\0g", "n", '0')), "first=1 n= ");
        fault("a name that begins with 0", second(named("", "\0n", '0')), 10, P);
        fault("a front alone", second(named("f", "", '0')), 10, P);
        fault("a front with a slash", second(named("f/", "n", '0')), 10, P);
        fault("a front of a slash", second(named("/", "n", '0')), 10, P);
        fault("a front of two dots", second(named("..", "n", '0')), 10, P);
        fault("a name of a dot behind a front", second(named("f", ".", '0')), 10, P);
        fault("a name with a slash before it", second(named("f", "/n", '0')), 10, P);
        sound("parts in both", second(named("a/b", "c/d", '0')), "first=1 a/b/c/d= ");
    }

    /** "of a directory without a slash at its end, if it has one (10, at p)". */
    private static void directoriesSlash() {
        sound("without", second(named("", "d", '5')), "first=1 d/ ");
        sound("with one", second(named("", "d/", '5')), "first=1 d/ ");
        fault("with two", second(named("", "d//", '5')), 10, P);
        fault("a slash alone", second(named("", "/", '5')), 10, P);
        fault("two alone", second(named("", "//", '5')), 10, P);
        fault("nothing", second(named("", "", '5')), 10, P);
        fault("a file with one", second(named("", "d/", '0')), 10, P);
        fault("a file of sort 0 with one", second(named("", "d/", 0)), 10, P);
        sound("a front alone, its slash goes", second(named("d", "", '5')), "first=1 d/ ");
        fault("a front with a slash alone", second(named("d/", "", '5')), 10, P);
        for (int n : new int[] {89, 90, 91}) {
            String name = "d".repeat(n);
            byte[] with = second(named("", name + "/", '5'));
            byte[] without = second(named("", name, '5'));
            byte[] front = second(named(name, "", '5'));
            if (n <= 90) {
                sound(n + " with", with, "first=1 " + name + "/ ");
                sound(n + " without", without, "first=1 " + name + "/ ");
                sound(n + " as a front", front, "first=1 " + name + "/ ");
            } else {
                fault(n + " with", with, 10, P);
                fault(n + " without", without, 10, P);
                fault(n + " as a front", front, 10, P);
            }
        }
    }

    /** "Then the SIZE bytes, and more up to a multiple of 512 (1; what is more is not looked at)." */
    private static void bytesBehindTheHead() {
        for (int size : new int[] {1, 2, 399, 400}) {
            byte[] file = Tar.file("f", "b".repeat(size));
            for (int n : new int[] {0, 1, size - 1, size, size + 1, 510, 511}) {
                fault("size " + size + ", there are " + n, Shelves.join(FIRST, Arrays.copyOf(file, 512 + n)), 1,
                        P + 512 + n);
            }
            Arrays.fill(file, 512 + size, 1024, (byte) 255);
            sound("size " + size + ", more", second(file), "first=1 f=" + "b".repeat(size) + " ");
            sound("size " + size + ", more, and a head behind it", second(file, Tar.file("g", "1")),
                    "first=1 f=" + "b".repeat(size) + " g=1 ");
        }
        sound("size 0", second(Tar.file("f", ""), Tar.file("g", "")), "first=1 f= g= ");
        fault("size 0, and no more", Shelves.join(FIRST, Tar.file("f", "")), 1, P + 512);
        fault("the name comes before these bytes", Shelves.join(FIRST, Tar.head("f//g", 1, '0')), 10, P);
    }

    /** "11: a member is IN THE WAY, or the 17th on the shelf"; "11, at p. p goes on behind them." */
    private static void inTheWay() {
        fault("under a file", second(Tar.file("first/a", "1")), 11, P);
        fault("directory under a file", second(Tar.directory("first/a")), 11, P);
        byte[] under = Tar.file("a/b", "1");
        fault("file over others", second(under, Tar.file("a", "1")), 11, P + 1024);
        sound("directory over others", second(under, Tar.directory("a")), "first=1 a/b=1 a/ ");
        fault("bytes come before that", Shelves.join(FIRST, Tar.head("first/a", 1, '0'), new byte[511]), 1,
                P + 512 + 511);
        fault("that comes before the next head", Shelves.join(FIRST, Tar.directory("first/a"), new byte[3]), 11, P);
        byte[] many = {};
        StringBuilder members = new StringBuilder();
        for (int i = 1; i <= 16; i++) {
            many = Shelves.join(many, i % 2 == 0 ? Tar.directory("m" + i) : Tar.file("m" + i, "" + i));
            members.append("m").append(i).append(i % 2 == 0 ? "/ " : "=" + i + " ");
            sound(i + " members", Shelves.join(many, Tar.end()), members.toString());
        }
        fault("the 17th", Shelves.join(many, Tar.directory("x"), Tar.end()), 11, many.length);
        sound("one of the 16 again", Shelves.join(many, Tar.directory("m16"), Tar.end()), members.toString());
        fault("it again, and the 17th", Shelves.join(many, Tar.directory("m16"), Tar.directory("x"), Tar.end()), 11,
                many.length + 512);
    }
}
