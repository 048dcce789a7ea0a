import java.util.Arrays;

/** Promises 12 and 13 for kind 2. */
public final class ReadEndTest {
    private static final Due DUE = new Due();

    public static void main(String[] args) {
        lengths();
        closing();
        entries();
        directories();
        names();
        locals();
        places();
        order();
        bytesOfMembers();
        packedBytes();
        shelf();
        DUE.close();
    }

    private static void fault(String what, byte[] tape, int number, int place) {
        Shelves.fault(DUE, what, 2, tape, number, place);
    }

    private static void sound(String what, byte[] tape, String members) {
        Shelves.sound(DUE, what, 2, tape, members);
    }

    private static Zip two() {
        return new Zip().plain("a", "body").plain("d/f", "xyz");
    }

    private static void lengths() {
        sound("none", new Zip().done(), "");
        sound("two", two().done(), "a=body d/f=xyz ");
        for (int n : new int[] {0, 1, 21}) {
            fault("too short " + n, Arrays.copyOf(two().done(), n), 1, n);
        }
        byte[] archive = two().done();
        int n = archive.length;
        fault("a byte less", Arrays.copyOf(archive, n - 1), 3, n - 23);
        fault("a byte more", Shelves.join(archive, new byte[1]), 3, n - 21);
    }

    private static void closing() {
        Zip zip = two();
        byte[] archive = zip.done();
        int e = zip.closing();
        for (int i = 0; i < 4; i++) {
            fault("mark " + i, Zip.with(archive, e + i, 9), 3, e + i);
        }
        for (int i : new int[] {4, 6, 20}) {
            fault("field " + i, Zip.with(archive, e + i, 1), 6, e + i);
            fault("field " + i + ", its second byte", Zip.with(archive, e + i + 1, 1), 6, e + i);
        }
        fault("8 is not 10", Zip.with(archive, e + 8, 1), 6, e + 8);
        fault("10 is not 8", Zip.with(archive, e + 11, 1), 6, e + 8);
        fault("17 entries", Zip.with(archive, e + 8, e + 10, 17), 11, e + 10);
        fault("256 entries", Zip.with(archive, e + 9, e + 11, 1), 11, e + 10);
        for (int i = 12; i < 20; i++) {
            fault("together not e " + i, Zip.with(archive, e + i, archive[e + i] + 1), 12, e + 12);
        }
        byte[] beyond = Zip.with(Zip.with(archive, e + 12, 0), e + 15, 255);
        fault("far beyond", beyond, 12, e + 12);
        // The highest numbers wrap round to e, if 32 bits are all that is looked at.
        beyond = archive.clone();
        System.arraycopy(Zip.little(e + 5, 4), 0, beyond, e + 12, 4);
        System.arraycopy(Zip.little(-5, 4), 0, beyond, e + 16, 4);
        fault("not by wrapping round", beyond, 12, e + 12);
        fault("one entry less", Zip.with(archive, e + 8, e + 10, 1), 12, zip.entry(1));
        fault("one entry more", Zip.with(archive, e + 8, e + 10, 3), 12, e);
        byte[] none = new Zip().done();
        fault("no entry, bytes before", Shelves.join(new byte[7], with4(none, 12, 7)), 12, 0);
        sound("no entry, bytes before BEGIN", Shelves.join(new byte[7], with4(none, 16, 7)), "");
    }

    private static byte[] with4(byte[] archive, int place, long number) {
        byte[] row = archive.clone();
        System.arraycopy(Zip.little(number, 4), 0, row, place, 4);
        return row;
    }

    private static void entries() {
        Zip zip = two();
        byte[] archive = zip.done();
        int q = zip.entry(1);
        for (int i = 0; i < 4; i++) {
            fault("mark " + i, Zip.with(archive, q + i, 9), 3, q + i);
        }
        fault("version 21", Zip.with(archive, q + 6, 21), 6, q + 6);
        fault("version 256", Zip.with(archive, q + 7, 1), 6, q + 6);
        fault("flags", Zip.with(archive, q + 8, 1), 6, q + 8);
        fault("flags high", Zip.with(archive, q + 9, 8), 6, q + 8);
        fault("way 1", Zip.with(archive, q + 10, 1), 8, q + 10);
        fault("way 9", Zip.with(archive, q + 10, 9), 8, q + 10);
        fault("way 264", Zip.with(Zip.with(archive, q + 10, 8), q + 11, 1), 8, q + 10);
        fault("disk", Zip.with(archive, q + 34, 1), 6, q + 34);
        fault("disk high", Zip.with(archive, q + 35, 1), 6, q + 34);
        for (int i : new int[] {28, 30, 32}) {
            fault("beyond " + i, Zip.with(archive, q + i, archive[q + i] + 1), 12, q);
            fault("far beyond " + i, Zip.with(archive, q + i + 1, 255), 12, q);
        }
        sound("version 0", Zip.with(archive, q + 6, 0), "a=body d/f=xyz ");
        byte[] other = archive;
        for (int i : new int[] {4, 5, 12, 13, 14, 15, 36, 37, 38, 39, 40, 41}) {
            other = Zip.with(other, q + i, 77);
        }
        sound("what is not looked at", other, "a=body d/f=xyz ");
        fault("401", with4(archive, q + 24, 401), 7, q + 24);
        fault("2 to 31 and more", with4(archive, q + 24, 0x80000003L), 7, q + 24);
        fault("size is not length", with4(archive, q + 20, 4), 7, q + 20);
        fault("length is not size", with4(archive, q + 24, 2), 7, q + 20);
        byte[] body = Shelves.bytes("a");
        Zip more = new Zip().add("x", 0, Zip.crc(body), body, 1, 3, 5, 7).add("y", 0, Zip.crc(body), body, 1, 0, 2, 0);
        sound("bytes that are passed over", more.done(), "x=a y=a ");
        byte[] cut = zip.done();
        int e = zip.closing();
        // The second entry is told to begin 45 bytes before e.
        byte[] late = Shelves.join(Arrays.copyOf(cut, zip.entry(1)), Arrays.copyOfRange(cut, e - 45, cut.length));
        late = with4(late, late.length - 10, e - zip.begin() - (e - 45 - zip.entry(1)));
        fault("46 bytes are not there", late, 12, zip.entry(1));
    }

    private static void directories() {
        Zip zip = new Zip().plain("d/", "").plain("x", "1");
        byte[] archive = zip.done();
        int q = zip.entry(0);
        sound("directory", archive, "d/ x=1 ");
        fault("way", Zip.with(archive, q + 10, 8), 7, q + 10);
        fault("check", Zip.with(archive, q + 19, 1), 7, q + 16);
        fault("size", Zip.with(archive, q + 20, 1), 7, q + 20);
        fault("length", Zip.with(archive, q + 24, 1), 7, q + 24);
        byte[] all = Zip.with(Zip.with(Zip.with(archive, q + 24, 1), q + 20, 1), q + 16, 1);
        fault("check first", all, 7, q + 16);
        fault("way first", Zip.with(all, q + 10, 8), 7, q + 10);
        fault("no name", new Zip().plain("/", "").done(), 10, 31 + 46);
        fault("no name, with check", Zip.with(new Zip().plain("/", "").done(), 31 + 16, 1), 7, 31 + 16);
        Zip noByte = new Zip().plain("", "");
        fault("a slash before the name", with4(Zip.with(noByte.done(), 30 + 16, 1), 30 + 42, 47L << 24), 10, 30 + 46);
        sound("time of a directory", Zip.with(archive, q + 12, 1), "d/ x=1 ");
        fault("two slashes", new Zip().plain("d//", "").done(), 10, 33 + 46);
        fault("directory before its name", with4(new Zip().plain("d//", "").done(), 33 + 20, 5), 7, 33 + 20);
    }

    private static void names() {
        fault("no byte", new Zip().plain("", "").done(), 10, 30 + 46);
        fault("dots", new Zip().plain("..", "").done(), 10, 32 + 46);
        fault("space", new Zip().plain("a b", "").done(), 10, 33 + 46);
        String ninety = "n".repeat(90);
        sound("90", new Zip().plain(ninety, "1").plain("d" + ninety.substring(1) + "/", "").done(),
                ninety + "=1 d" + ninety.substring(1) + "/ ");
        fault("91", new Zip().plain(ninety + "n", "").done(), 10, 121 + 46);
        fault("91 of a directory", new Zip().plain(ninety + "n/", "").done(), 10, 122 + 46);
        fault("a long one", new Zip().plain("n".repeat(3000), "").done(), 10, 3030 + 46);
    }

    private static void locals() {
        Zip zip = two();
        byte[] archive = zip.done();
        int h = 30 + 1 + 4;
        int q = zip.entry(1);
        for (int i = 0; i < 4; i++) {
            fault("mark " + i, Zip.with(archive, h + i, 9), 3, h + i);
        }
        int[] fields = {6, 8, 14, 18, 22, 26};
        int[] widths = {2, 2, 4, 4, 4, 2};
        for (int f = 0; f < fields.length; f++) {
            for (int i = 0; i < widths[f]; i++) {
                int place = h + fields[f] + i;
                fault("differs " + fields[f], Zip.with(archive, place, archive[place] ^ 0x40), 13, h + fields[f]);
            }
        }
        for (int i = 0; i < 3; i++) {
            fault("name differs " + i, Zip.with(archive, h + 30 + i, 'z'), 13, h + 30 + i);
        }
        byte[] several = Zip.with(archive, h + 32, 'z');
        for (int f = fields.length - 1; f >= 0; f--) {
            several = Zip.with(several, h + fields[f], archive[h + fields[f]] ^ 0x40);
            fault("first that differs", several, 13, h + fields[f]);
        }
        byte[] other = archive;
        for (int i : new int[] {4, 5, 10, 11, 12, 13}) {
            other = Zip.with(other, h + i, 77);
        }
        sound("what is not looked at", other, "a=body d/f=xyz ");
        fault("bytes behind the name", Zip.with(archive, h + 28, 1), 12, q + 42);
        fault("many of them", Zip.with(archive, h + 29, 255), 12, q + 42);
        // Of the first member there is room for them, but they are not its bytes then.
        fault("other bytes", Zip.with(archive, 28, 1), 4, zip.entry(0) + 16);
    }

    private static void places() {
        Zip zip = two();
        byte[] archive = zip.done();
        int q = zip.entry(1);
        int begin = zip.begin();
        fault("29 bytes before BEGIN", with4(archive, q + 42, begin - 29), 12, q + 42);
        fault("beyond", with4(archive, q + 42, 0xFFFFFFFFL), 12, q + 42);
        fault("2 to 31", with4(archive, q + 42, 0x80000000L), 12, q + 42);
        fault("another one's", with4(archive, q + 42, 0), 13, 14);
        fault("no head", with4(archive, q + 42, 1), 3, 1);
        fault("30 bytes before BEGIN", with4(archive, q + 42, begin - 30), 3, begin - 30);
        // Packed bytes of a size that goes beyond BEGIN by one.
        byte[] data = Shelves.row(0x4B, 0x04, 0x00);
        Zip packed = new Zip().packed("f", data, Shelves.bytes("a"));
        byte[] row = packed.done();
        sound("packed", row, "f=a ");
        row = Zip.with(row, 18, packed.entry(0) + 20, 4);
        fault("size beyond BEGIN", row, 12, packed.entry(0) + 42);
        row = with4(with4(packed.done(), 18, 0xFFFFFFF0L), packed.entry(0) + 20, 0xFFFFFFF0L);
        fault("size without sign", row, 12, packed.entry(0) + 42);
        // Two entries may have one local head.
        Zip same = new Zip().plain("a", "1").plain("a", "1");
        sound("one head for both", with4(same.done(), same.entry(1) + 42, 0), "a=1 ");
    }

    private static void order() {
        Zip zip = new Zip().plain("a b", "1");
        int q = zip.entry(0);
        byte[] bad = with4(zip.done(), q + 42, 5000);
        fault("name before place", bad, 10, q + 46);
        bad = with4(bad, q + 20, 2);
        fault("size before name", bad, 7, q + 20);
        bad = with4(bad, q + 24, 1000);
        fault("length before size", bad, 7, q + 24);
        bad = Zip.with(bad, q + 28, 200);
        fault("name's end before length", bad, 12, q);
        bad = Zip.with(bad, q + 34, 1);
        fault("disk before name's end", bad, 6, q + 34);
        bad = Zip.with(bad, q + 10, 1);
        fault("way before disk", bad, 8, q + 10);
        bad = Zip.with(bad, q + 8, 1);
        fault("flags before way", bad, 6, q + 8);
        bad = Zip.with(bad, q + 6, 21);
        fault("version before flags", bad, 6, q + 6);
        bad = Zip.with(bad, q + 3, 21);
        fault("mark before version", bad, 3, q + 3);
        int e = zip.closing();
        bad = Zip.with(bad, e + 20, 1);
        fault("end before entries", bad, 6, e + 20);
        bad = Zip.with(bad, e + 12, 1);
        fault("BEGIN before 20", bad, 12, e + 12);
        bad = Zip.with(bad, e + 8, e + 10, 17);
        fault("entries before BEGIN", bad, 11, e + 10);
        bad = Zip.with(bad, e + 8, 16);
        fault("8 before entries", bad, 6, e + 8);
        bad = Zip.with(bad, e + 6, 16);
        fault("6 before 8", bad, 6, e + 6);
        bad = Zip.with(bad, e + 4, 16);
        fault("4 before 6", bad, 6, e + 4);
        bad = Zip.with(bad, e + 3, 16);
        fault("mark before 4", bad, 3, e + 3);
    }

    private static void bytesOfMembers() {
        Zip zip = two();
        byte[] archive = zip.done();
        fault("other byte", Zip.with(archive, 31, 'x'), 4, zip.entry(0) + 16);
        int h = 35;
        fault("other byte of the second", Zip.with(archive, h + 33, 'y'), 4, zip.entry(1) + 16);
        fault("other check", Zip.with(archive, h + 17, zip.entry(1) + 19, 1), 4, zip.entry(1) + 16);
        fault("file of none with check", new Zip().add("f", 0, 1, new byte[0], 0).done(), 4, 31 + 16);
        String most = "m".repeat(400);
        sound("400", new Zip().plain("f", most).done(), "f=" + most + " ");
        fault("check before in the way", new Zip().plain("a", "1").add("a/b", 0, 5, new byte[0], 0).done(), 4,
                30 + 2 + 33 + 47 + 16);
    }

    private static byte[] member(byte[] data, int length) {
        return new Zip().plain("first", "1").add("f", 8, Zip.crc(new byte[0]), data, length).done();
    }

    private static void packedBytes() {
        // The first member takes 36 bytes and the second one's head 31.
        int d = 36 + 31;
        int q = 36 + 51;
        byte[] body = Shelves.bytes("packed bytes, packed bytes, packed bytes and others");
        byte[] data = Zip.deflated(body);
        sound("packed by others", new Zip().packed("f", data, body).done(), "f=" + new String(body) + " ");
        byte[] dynamic = Shelves.bytes("aaabacaaadaaabaaacaaaaeaaaaaabaacaaafaa".repeat(10));
        sound("packed by others, longer", new Zip().packed("f", Zip.deflated(dynamic), dynamic).done(),
                "f=" + new String(dynamic) + " ");
        sound("packed none", new Zip().plain("first", "1").packed("f", Shelves.row(3, 0), new byte[0]).done(),
                "first=1 f= ");
        fault("20 of no byte", member(new byte[0], 0), 20, d);
        fault("20", member(Shelves.row(0x4B), 1), 20, d + 1);
        fault("21", member(Shelves.row(7, 0), 1), 21, d);
        fault("22", member(Shelves.row(1, 0, 0, 0, 0), 1), 22, d);
        fault("22 behind", member(Shelves.row(0, 0, 0, 255, 255, 1, 0, 0, 0, 0), 1), 22, d + 5);
        fault("23", member(Shelves.row(0x4B, 0x04, 0x00), 0), 23, d);
        fault("23 in sort 0", member(Shelves.row(1, 2, 0, 253, 255, 'a', 'b'), 1), 23, d + 6);
        fault("24", member(Shelves.row(5, 0, 0, 0, 0, 0, 0, 0, 0, 0), 1), 24, d);
        fault("25", member(new Bits().block(true, 1).fixed('a').fixed(286).done(), 1), 25, d + 1);
        fault("26", member(new Bits().block(true, 1).fixed('a').fixed(257).far(1).done(), 1), 26, d + 1);
        fault("27", member(Shelves.row(0x4B, 0x04, 0x00, 0x00), 1), 27, d + 3);
        fault("14", member(Shelves.row(0x4B, 0x04, 0x00), 2), 14, q + 24 + dataEnd(3));
        fault("14 of none", member(Shelves.row(3, 0), 400), 14, q + 24 + dataEnd(2));
        fault("4", member(Shelves.row(0x4B, 0x04, 0x00), 1), 4, q + 16 + dataEnd(3));
        fault("27 before 14", member(Shelves.row(0x4B, 0x04, 0x00, 0x00), 2), 27, d + 3);
    }

    /** How much further the second entry begins than with no data: see member(). */
    private static int dataEnd(int data) {
        return 36 + 31 + data + 51 - (36 + 51);
    }

    private static void shelf() {
        sound("again", new Zip().plain("a", "1").plain("b", "2").plain("a", "3").done(), "b=2 a=3 ");
        Zip under = new Zip().plain("a", "1").plain("a/b", "2");
        fault("under a file", under.done(), 11, under.entry(1));
        Zip over = new Zip().plain("a/b", "1").plain("c", "").plain("a", "2");
        fault("file over others", over.done(), 11, over.entry(2));
        Zip many = new Zip();
        StringBuilder members = new StringBuilder();
        for (int i = 0; i < 16; i++) {
            many.plain("m" + i, "" + i);
            members.append("m").append(i).append('=').append(i).append(' ');
        }
        sound("16", many.done(), members.toString());
        fault("17", many.plain("m0", "").done(), 11, many.closing() + 10);
    }
}
