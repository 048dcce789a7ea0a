import java.util.Arrays;

/** Part 2, DIRECTORY AT THE END: each sentence at its edges, with the place of each FAULT. */
public final class EndEdgesTest {
    private static final Due DUE = new Due();
    private static final String MEMBERS = "a=body d/f=xyz ";
    private static final Zip TWO = new Zip().plain("a", "body").plain("d/f", "xyz");
    private static final byte[] ARCHIVE = TWO.done();
    private static final int E = TWO.closing();
    private static final int BEGIN = TWO.begin();
    /** The second entry and its local head. */
    private static final int Q = TWO.entry(1);
    private static final int H = 30 + 1 + 4;

    public static void main(String[] args) {
        last22Bytes();
        fieldsOfTheEnd();
        entriesToldTwice();
        atMost16();
        beginAndLength();
        entriesOf46();
        fieldsOfAnEntry();
        ways();
        entryBeforeE();
        directories();
        lengths();
        sizes();
        names();
        localBeforeBegin();
        localMark();
        sameFields();
        sameName();
        sizeBytesBeforeBegin();
        unpackedLength();
        checks();
        inTheWay();
        behindTheLastEntry();
        DUE.close();
    }

    private static void fault(String what, byte[] tape, int number, int place) {
        Shelves.fault(DUE, what, 2, tape, number, place);
    }

    private static void sound(String what, byte[] tape, String members) {
        Shelves.sound(DUE, what, 2, tape, members);
    }

    private static byte[] with2(int place, long number) {
        return Zip.number(ARCHIVE, place, 2, number);
    }

    private static byte[] with4(int place, long number) {
        return Zip.number(ARCHIVE, place, 4, number);
    }

    /** "The last 22 bytes (1, if there are not so many) at e: 0, 4: 80 75 5 6 (3, at the first byte that is not so)". */
    private static void last22Bytes() {
        byte[] none = new Zip().done();
        sound("22", none, "");
        for (int n : new int[] {0, 1, 20, 21}) {
            fault("the first " + n, Arrays.copyOf(none, n), 1, n);
            fault("the last " + n, Arrays.copyOfRange(none, 22 - n, 22), 1, n);
        }
        fault("22 of nothing", new byte[22], 3, 0);
        fault("23 of nothing", new byte[23], 3, 1);
        fault("23, the last byte is one more", Shelves.join(none, new byte[1]), 3, 1);
        fault("23, the first byte is one more", Shelves.join(new byte[1], none), 12, 1 + 12);
        for (int i = 0; i < 4; i++) {
            for (int step : new int[] {-1, 1}) {
                fault("mark " + i, Zip.with(ARCHIVE, E + i, ARCHIVE[E + i] + step), 3, E + i);
            }
            byte[] two = Zip.with(Zip.with(ARCHIVE, E + 3, 0), E + i, 0);
            fault("the first of two", two, 3, E + i);
        }
    }

    /** "4, 2, then 6, 2 are 0 (6)"; "20, 2 is 0 (6)". */
    private static void fieldsOfTheEnd() {
        for (int field : new int[] {4, 6, 20}) {
            for (int v : new int[] {1, 255, 256, 65535}) {
                fault("field " + field + " is " + v, with2(E + field, v), 6, E + field);
            }
        }
        fault("4 before 6", Zip.with(Zip.with(ARCHIVE, E + 6, 1), E + 5, 1), 6, E + 4);
        fault("12 before 20", Zip.with(Zip.with(ARCHIVE, E + 20, 1), E + 12, 0), 12, E + 12);
        fault("20 before entries", Zip.with(Zip.with(ARCHIVE, E + 20, 1), BEGIN, 0), 6, E + 20);
    }

    /** "8, 2 is the number at 10, 2 (6, at 8)". */
    private static void entriesToldTwice() {
        for (int other : new int[] {0, 1, 3, 2 + 256, 65535}) {
            fault("8 is " + other, with2(E + 8, other), 6, E + 8);
            fault("10 is " + other, with2(E + 10, other), 6, E + 8);
        }
        fault("it before 16 at most", with2(E + 10, 17), 6, E + 8);
    }

    /** "which is 16 at most (11, at 10)". */
    private static void atMost16() {
        for (int n : new int[] {17, 18, 256, 256 + 2, 65535}) {
            fault(n + " entries", Zip.number(with2(E + 8, n), E + 10, 2, n), 11, E + 10);
        }
        Zip zip = new Zip();
        StringBuilder members = new StringBuilder();
        for (int i = 1; i <= 16; i++) {
            zip.plain("m" + i, "" + i);
            members.append("m").append(i).append("=").append(i).append(" ");
            sound(i + " entries", zip.done(), members.toString());
        }
        Zip same = new Zip();
        for (int i = 1; i <= 17; i++) {
            same.plain("m", "" + i);
            if (i <= 16) {
                sound(i + " entries of one name", same.done(), "m=" + i + " ");
            }
        }
        fault("17 entries of one name", same.done(), 11, same.closing() + 10);
        fault("16 at most before 12", Zip.number(Zip.number(with2(E + 8, 17), E + 10, 2, 17), E + 12, 4, 0), 11, E + 10);
    }

    /** "12, 4 and 16, 4: the second one, BEGIN, and the first one are e together (12, at 12)". */
    private static void beginAndLength() {
        long length = E - BEGIN;
        for (long step : new long[] {-1, 1, 256, 65536, 1L << 24}) {
            fault("length by " + step, with4(E + 12, length + step), 12, E + 12);
            fault("BEGIN by " + step, with4(E + 16, BEGIN + step), 12, E + 12);
        }
        // As numbers of 32 bits these would be e together.
        for (long far : new long[] {0xffffffffL, 0x80000000L, 0xfffffff0L}) {
            byte[] wrapped = Zip.number(with4(E + 12, E - far), E + 16, 4, far);
            fault("wrapped round " + far, wrapped, 12, E + 12);
            wrapped = Zip.number(with4(E + 16, E - far), E + 12, 4, far);
            fault("wrapped round " + far, wrapped, 12, E + 12);
        }
        fault("BEGIN further on", Zip.number(with4(E + 12, length - 1), E + 16, 4, BEGIN + 1), 3, BEGIN + 1);
        fault("BEGIN before", Zip.number(with4(E + 12, length + 1), E + 16, 4, BEGIN - 1), 3, BEGIN - 1);
        fault("BEGIN 0", Zip.number(with4(E + 12, E), E + 16, 4, 0), 3, 2);
        fault("BEGIN e", Zip.number(with4(E + 12, 0), E + 16, 4, E), 12, E);
    }

    /** "Entries, the first at BEGIN, each behind the other: at q there are 46 bytes before e (12, at q)." */
    private static void entriesOf46() {
        for (int n : new int[] {0, 1, 45}) {
            // So many bytes of the second entry are left before e.
            byte[] row = Shelves.join(Arrays.copyOf(ARCHIVE, Q + n), Arrays.copyOfRange(ARCHIVE, E, E + 22));
            row = Zip.number(row, Q + n + 12, 4, Q + n - BEGIN);
            fault("46 bytes, there are " + n, row, 12, Q);
        }
        byte[] row = Shelves.join(Arrays.copyOf(ARCHIVE, Q + 46), Arrays.copyOfRange(ARCHIVE, E, E + 22));
        row = Zip.number(Zip.number(row, Q + 46 + 12, 4, Q + 46 - BEGIN), Q + 28, 2, 0);
        fault("46 bytes of no name", row, 10, Q + 46);
        for (int i = 0; i < 4; i++) {
            for (int step : new int[] {-1, 1}) {
                fault("mark " + i, Zip.with(ARCHIVE, Q + i, ARCHIVE[Q + i] + step), 3, Q + i);
                fault("mark of the first " + i, Zip.with(ARCHIVE, BEGIN + i, ARCHIVE[BEGIN + i] + step), 3, BEGIN + i);
            }
        }
    }

    /** "6, 2 is 20 at most (6); 8, 2 is 0 (6)"; "34, 2 is 0 (6)". */
    private static void fieldsOfAnEntry() {
        for (int v : new int[] {0, 1, 19, 20}) {
            sound("6 is " + v, with2(Q + 6, v), MEMBERS);
        }
        for (int v : new int[] {21, 22, 256, 256 + 20, 65535}) {
            fault("6 is " + v, with2(Q + 6, v), 6, Q + 6);
        }
        for (int field : new int[] {8, 34}) {
            for (int v : new int[] {1, 8, 256, 65535}) {
                fault(field + " is " + v, with2(Q + field, v), 6, Q + field);
            }
        }
        for (int i : new int[] {4, 5, 12, 13, 14, 15, 36, 37, 38, 39, 40, 41}) {
            sound("not told of: " + i, Zip.with(ARCHIVE, Q + i, 255), MEMBERS);
        }
    }

    /** "10, 2, the WAY: 0 or 8 (8)". */
    private static void ways() {
        for (int v : new int[] {1, 2, 7, 9, 12, 16, 128, 256, 256 + 8, 8 * 256, 65535}) {
            fault("way " + v, with2(Q + 10, v), 8, Q + 10);
        }
        sound("way 0", with2(Q + 10, 0), MEMBERS);
        byte[] body = Shelves.bytes("xyz");
        sound("way 8", new Zip().packed("f", PlainPacker.packed(body), body).done(), "f=xyz ");
        fault("way 8 of what has way 0", with2(Q + 10, 8), 13, H + 8);
    }

    /** "46 and the numbers at 28, 2 (N), 30, 2, 32, 2 together do not go beyond e (12, at q)". */
    private static void entryBeforeE() {
        for (int field : new int[] {28, 30, 32}) {
            int now = field == 28 ? 3 : 0;
            for (int more : new int[] {1, 2, 256, 65535 - now}) {
                fault(field + " is more by " + more, with2(Q + field, now + more), 12, Q);
            }
        }
        byte[] body = Shelves.bytes("1");
        Zip zip = new Zip().add("a", 0, Zip.crc(body), body, 1, 0, 2, 3).add("b", 0, Zip.crc(body), body, 1, 0, 4, 5);
        sound("bytes behind the name", zip.done(), "a=1 b=1 ");
        int q = zip.entry(1);
        for (int field : new int[] {28, 30, 32}) {
            fault("one more of them", Zip.with(zip.done(), q + field, zip.done()[q + field] + 1), 12, q);
        }
        fault("one less of them", Zip.with(zip.done(), q + 30, 3), 12, zip.closing() - 1);
        // The three together, at their most, and 46.
        byte[] most = Zip.number(Zip.number(with2(Q + 28, 65535), Q + 30, 2, 65535), Q + 32, 2, 65535);
        fault("all at their most", most, 12, Q);
        byte[] shift = Zip.number(with2(Q + 28, 1), Q + 30, 2, 2);
        fault("N and more are as much as before", shift, 13, H + 26);
    }

    /** "If its last one is a slash, it is a directory's .. 10, 2, then 16, 4, 20, 4, 24, 4 are 0 (7)". */
    private static void directories() {
        Zip zip = new Zip().plain("d/", "").plain("x", "1");
        byte[] archive = zip.done();
        int q = zip.entry(0);
        sound("directory", archive, "d/ x=1 ");
        fault("10", Zip.number(archive, q + 10, 2, 8), 7, q + 10);
        for (int field : new int[] {16, 20, 24}) {
            for (long v : new long[] {1, 256, 1L << 16, 1L << 24, 0xffffffffL}) {
                fault(field + " is " + v, Zip.number(archive, q + field, 4, v), 7, q + field);
            }
        }
        byte[] row = archive;
        for (int field : new int[] {24, 20, 16}) {
            row = Zip.number(row, q + field, 4, 500);
            fault("the first of these", row, 7, q + field);
        }
        row = Zip.number(row, q + 10, 2, 8);
        fault("the first of these", row, 7, q + 10);
        Zip file = new Zip().plain("d", "").plain("x", "1");
        sound("without a slash it is a file", file.done(), "d= x=1 ");
        Zip inside = new Zip().plain("d/x", "1");
        sound("a slash inside", inside.done(), "d/x=1 ");
        fault("a slash alone", new Zip().plain("/", "").done(), 10, 31 + 46);
        fault("two", new Zip().plain("d//", "").done(), 10, 33 + 46);
        fault("a slash alone is a directory's", Zip.with(new Zip().plain("/", "").done(), 31 + 16, 1), 7, 31 + 16);
        // No byte of a name, and a slash before it, in the number at 42: no directory's.
        byte[] noByte = Zip.with(new Zip().plain("", "").done(), 30 + 16, 1);
        fault("a slash that is none of the name", Zip.with(noByte, 30 + 45, 47), 10, 30 + 46);
        for (int i : new int[] {12, 13, 14, 15}) {
            sound("not told of: " + i, Zip.with(archive, q + i, 1), "d/ x=1 ");
        }
    }

    /** "24, 4, the LENGTH, is 400 at most (7)". */
    private static void lengths() {
        for (int n : new int[] {0, 1, 399, 400}) {
            byte[] body = Shelves.bytes("b".repeat(n));
            sound("length " + n, new Zip().plain("f", "b".repeat(n)).done(), "f=" + "b".repeat(n) + " ");
            sound("length packed " + n, new Zip().packed("f", PlainPacker.packed(body), body).done(),
                    "f=" + "b".repeat(n) + " ");
        }
        for (long n : new long[] {401, 402, 65536, 0x7fffffffL, 0x80000000L, 0x80000003L, 0xffffffffL}) {
            fault("length " + n, with4(Q + 24, n), 7, Q + 24);
            fault("length and size " + n, Zip.number(with4(Q + 24, n), Q + 20, 4, n), 7, Q + 24);
        }
        for (int n : new int[] {401, 500}) {
            byte[] body = Shelves.bytes("b".repeat(n));
            Zip plain = new Zip().plain("f", "b".repeat(n));
            fault("plain " + n, plain.done(), 7, plain.entry(0) + 24);
            Zip packed = new Zip().packed("f", PlainPacker.packed(body), body);
            fault("packed " + n, packed.done(), 7, packed.entry(0) + 24);
        }
    }

    /** "with WAY 0: 20, 4, the SIZE, is that (7)". */
    private static void sizes() {
        for (long n : new long[] {0, 2, 4, 3 + 256, 3 + 65536, 0x80000003L, 0xffffffffL}) {
            fault("size " + n, with4(Q + 20, n), 7, Q + 20);
        }
        for (long n : new long[] {0, 2, 4, 400}) {
            fault("length " + n, with4(Q + 24, n), 7, Q + 20);
        }
        // With WAY 8 it may be more, and less.
        byte[] one = Shelves.bytes("a");
        sound("WAY 8, size 3, length 1", new Zip().packed("f", PlainPacker.packed(one), one).done(), "f=a ");
        byte[] many = Shelves.bytes("a".repeat(400));
        sound("WAY 8, length 400", new Zip().packed("f", PlainPacker.packed(many), many).done(),
                "f=" + "a".repeat(400) + " ");
    }

    /** "The name (10, at 46)." */
    private static void names() {
        for (String bad : new String[] {"", ".", "..", "a//b", "/a", "a b", "n".repeat(91), "n".repeat(256)}) {
            Zip zip = new Zip().plain("x", "1").plain(bad, "");
            fault("name <" + bad + ">", zip.done(), 10, zip.entry(1) + 46);
            Zip directory = new Zip().plain("x", "1").plain(bad + "/", "");
            fault("directory's name <" + bad + ">", directory.done(), 10, directory.entry(1) + 46);
        }
        Zip zip = new Zip().plain("x", "1").plain("a b", "");
        fault("the name before the local head", Zip.number(zip.done(), zip.entry(1) + 42, 4, 5000), 10,
                zip.entry(1) + 46);
    }

    /** "Its LOCAL head at h, the number at 42, 4: 30 bytes before BEGIN (12, at 42)." */
    private static void localBeforeBegin() {
        for (long h : new long[] {BEGIN - 29, BEGIN - 1, BEGIN, E, 0x7fffffffL, 0x80000000L, 0xffffffe2L, 0xffffffffL}) {
            fault("h " + h, with4(Q + 42, h), 12, Q + 42);
        }
        fault("h 30 bytes before BEGIN", with4(Q + 42, BEGIN - 30), 3, BEGIN - 30);
        fault("h 31 bytes before BEGIN", with4(Q + 42, BEGIN - 31), 3, BEGIN - 31);
        fault("h 0 is the other one's", with4(Q + 42, 0), 13, 14);
        Zip least = new Zip().plain("f", "");
        sound("h 31 bytes before BEGIN, all of it", least.done(), "f= ");
    }

    /** "At h: 0, 4: 80 75 3 4 (3, likewise)." */
    private static void localMark() {
        for (int i = 0; i < 4; i++) {
            for (int step : new int[] {-1, 1}) {
                fault("mark " + i, Zip.with(ARCHIVE, H + i, ARCHIVE[H + i] + step), 3, H + i);
            }
        }
        fault("it before the fields", Zip.with(Zip.with(ARCHIVE, H + 6, 1), H + 3, 0), 3, H + 3);
        for (int i : new int[] {4, 5, 10, 11, 12, 13}) {
            sound("not told of: " + i, Zip.with(ARCHIVE, H + i, 255), MEMBERS);
        }
    }

    /** "As in the entry are 6, 2 (8, 2 there), 8, 2 (10), 14, 4 (16), 18, 4 (20), 22, 4 (24), 26, 2 (28)" (13). */
    private static void sameFields() {
        int[] fields = {6, 8, 14, 18, 22, 26};
        int[] widths = {2, 2, 4, 4, 4, 2};
        byte[] all = ARCHIVE;
        for (int f = 5; f >= 0; f--) {
            for (int i = 0; i < widths[f]; i++) {
                for (int step : new int[] {-1, 1, 128}) {
                    int place = H + fields[f] + i;
                    fault("field " + place, Zip.with(ARCHIVE, place, ARCHIVE[place] + step), 13, H + fields[f]);
                }
            }
            all = Zip.with(all, H + fields[f] + widths[f] - 1, 1);
            fault("the first that differs", all, 13, H + fields[f]);
        }
        // The entry's check is that of the bytes, and the local one differs: 13 comes before 4.
        fault("13 before 4", Zip.with(Zip.with(ARCHIVE, H + 14, 0), H + 33, 'z'), 13, H + 14);
    }

    /** "and the name at 30 (.. the name at its first byte that does)". */
    private static void sameName() {
        for (int i = 0; i < 3; i++) {
            fault("byte " + i, Zip.with(ARCHIVE, H + 30 + i, 'z'), 13, H + 30 + i);
            byte[] two = Zip.with(Zip.with(ARCHIVE, H + 32, 'z'), H + 30 + i, 'z');
            fault("the first of two " + i, two, 13, H + 30 + i);
        }
        Zip directory = new Zip().plain("d/", "");
        fault("a directory's slash", Zip.with(directory.done(), 31, 'd'), 13, 31);
        sound("behind the name", new Zip().add("f", 0, 0, new byte[0], 0, 1, 0, 0).done(), "f= ");
    }

    /** "Behind the name and as many bytes as 28, 2 tells are the SIZE bytes, before BEGIN (12, at 42 of the entry)." */
    private static void sizeBytesBeforeBegin() {
        for (int more : new int[] {1, 2, 256, 65535}) {
            fault("28 is " + more, with2(H + 28, more), 12, Q + 42);
        }
        // Of the first member 28 may be more; its bytes are others then.
        int room = BEGIN - 30 - 1 - 4;
        fault("28 is all the room", with2(28, room), 4, BEGIN + 16);
        fault("28 is one more", with2(28, room + 1), 12, BEGIN + 42);
        byte[] body = Shelves.bytes("a");
        byte[] data = PlainPacker.packed(body);
        for (int localMore : new int[] {0, 1, 7}) {
            Zip zip = new Zip().add("f", 8, Zip.crc(body), data, 1, localMore, 0, 0);
            sound("28 is " + localMore, zip.done(), "f=a ");
            int q = zip.entry(0);
            for (long size : new long[] {data.length + 1, data.length + 256, 0x7fffffffL, 0x80000000L, 0xffffffffL}) {
                byte[] row = Zip.number(Zip.number(zip.done(), 18, 4, size), q + 20, 4, size);
                fault("size " + size, row, 12, q + 42);
            }
            byte[] less = Zip.number(Zip.number(zip.done(), 18, 4, data.length - 1), q + 20, 4, data.length - 1);
            fault("a byte less", less, 20, 31 + localMore + data.length - 1);
        }
        fault("no name before BEGIN, what is there differs", withoutLocalName("PKx"), 13, 30 + 2);
        fault("no name before BEGIN, what is there is the same", withoutLocalName("PK"), 12, 30 + 42);
    }

    /** One empty file: its local head ends at BEGIN, where the entry's mark stands in the name's place. */
    private static byte[] withoutLocalName(String name) {
        byte[] row = new Zip().plain(name, "").done();
        row = Shelves.join(Arrays.copyOf(row, 30), Arrays.copyOfRange(row, 30 + name.length(), row.length));
        return Zip.number(row, row.length - 6, 4, 30);
    }

    /** "WAY 8: they are UNPACKED, at most LENGTH bytes (FAULTS of 3); then there are LENGTH (14, at 24 of the entry)." */
    private static void unpackedLength() {
        for (int n : new int[] {1, 2, 399, 400}) {
            byte[] body = Shelves.bytes("b".repeat(n));
            byte[] data = PlainPacker.packed(body);
            // The last symbol: the first byte's of 1, the second one's of 2, else that behind a length of 258.
            int last = n == 1 ? 0 : n == 2 ? 1 : 3;
            for (int length : new int[] {n - 1, n, n + 1}) {
                Zip zip = new Zip().plain("x", "1").add("f", 8, Zip.crc(body), data, length);
                String what = n + " bytes, LENGTH " + length;
                if (length > 400) {
                    fault(what, zip.done(), 7, zip.entry(1) + 24);
                } else if (length == n) {
                    sound(what, zip.done(), "x=1 f=" + "b".repeat(n) + " ");
                } else if (length > n) {
                    fault(what, zip.done(), 14, zip.entry(1) + 24);
                } else {
                    fault(what, zip.done(), 23, 32 + 31 + last);
                }
            }
        }
        byte[] none = PlainPacker.packed(new byte[0]);
        sound("none of none", new Zip().add("f", 8, 0, none, 0).done(), "f= ");
        Zip one = new Zip().add("f", 8, 0, none, 1);
        fault("none of one", one.done(), 14, one.entry(0) + 24);
        // 27 is told before 14, and 14 before 4.
        Zip left = new Zip().add("f", 8, 5, Shelves.join(none, new byte[1]), 1);
        fault("27 before 14", left.done(), 27, 31 + none.length);
        Zip few = new Zip().add("f", 8, 5, none, 1);
        fault("14 before 4", few.done(), 14, few.entry(0) + 24);
    }

    /** "The CHECK of its bytes is the number at 16, 4 (4)." */
    private static void checks() {
        byte[] body = Shelves.bytes("body");
        for (long check : new long[] {Zip.crc(body) - 1, Zip.crc(body) + 1, Zip.crc(body) ^ 0x80000000L, 0}) {
            Zip plain = new Zip().plain("x", "1").add("f", 0, check, body, 4);
            fault("plain " + check, plain.done(), 4, plain.entry(1) + 16);
            Zip packed = new Zip().plain("x", "1").add("f", 8, check, PlainPacker.packed(body), 4);
            fault("packed " + check, packed.done(), 4, packed.entry(1) + 16);
        }
        sound("empty, 0", new Zip().add("f", 0, 0, new byte[0], 0).done(), "f= ");
        fault("empty, 1", new Zip().add("f", 0, 1, new byte[0], 0).done(), 4, 31 + 16);
        // A check with its highest bit: a number without sign.
        byte[] high = Shelves.bytes("a");
        DUE.same("that is high", Zip.crc(high) >>> 31, 1);
        sound("high", new Zip().plain("f", "a").done(), "f=a ");
    }

    /** "11: a member is IN THE WAY, or the 17th on the shelf"; "11, at q". */
    private static void inTheWay() {
        Zip under = new Zip().plain("a", "1").plain("a/b", "");
        fault("under a file", under.done(), 11, under.entry(1));
        Zip directory = new Zip().plain("a", "1").plain("a/b/", "");
        fault("directory under a file", directory.done(), 11, directory.entry(1));
        Zip over = new Zip().plain("a/b", "1").plain("a", "");
        fault("file over others", over.done(), 11, over.entry(1));
        sound("directory over others", new Zip().plain("a/b", "1").plain("a/", "").done(), "a/b=1 a/ ");
        Zip check = new Zip().plain("a", "1").add("a/b", 0, 9, new byte[0], 0);
        fault("the check before that", check.done(), 4, check.entry(1) + 16);
        Zip next = new Zip().plain("a", "1").plain("a/b", "").plain("..", "");
        fault("that before the next entry", next.done(), 11, next.entry(1));
    }

    /** "Behind the last entry is e (12, at q)." */
    private static void behindTheLastEntry() {
        for (int n : new int[] {0, 1}) {
            byte[] less = Zip.number(with2(E + 8, n), E + 10, 2, n);
            fault(n + " entries of 2", less, 12, n == 0 ? BEGIN : Q);
        }
        byte[] more = Zip.number(with2(E + 8, 3), E + 10, 2, 3);
        fault("3 entries of 2", more, 12, E);
        for (int n : new int[] {1, 45, 46, 47}) {
            byte[] gap = Shelves.join(Arrays.copyOf(ARCHIVE, E), new byte[n], Arrays.copyOfRange(ARCHIVE, E, E + 22));
            gap = Zip.number(gap, E + n + 12, 4, E + n - BEGIN);
            fault(n + " bytes behind the last", gap, 12, E);
        }
        // What stands between the members is not told of.
        byte[] front = Shelves.join(new byte[5], new Zip().done());
        sound("bytes before BEGIN", Zip.number(front, 5 + 16, 4, 5), "");
    }
}
