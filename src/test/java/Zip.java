import java.util.ArrayList;
import java.util.List;
import java.util.zip.CRC32;
import java.util.zip.Deflater;

/** Makes archives of kind 2 by the words of the document, apart from the program. */
final class Zip {
    private final List<byte[]> locals = new ArrayList<>();
    private final List<byte[]> entries = new ArrayList<>();
    private int begin = 0;
    private int members = 0;

    static byte[] little(long number, int n) {
        byte[] row = new byte[n];
        for (int i = 0; i < n; i++) {
            row[i] = (byte) (number >>> 8 * i);
        }
        return row;
    }

    static byte[] deflated(byte[] body) {
        Deflater deflater = new Deflater(9, true);
        deflater.setInput(body);
        deflater.finish();
        byte[] row = new byte[2000];
        int n = deflater.deflate(row);
        deflater.end();
        return java.util.Arrays.copyOf(row, n);
    }

    static long crc(byte[] body) {
        CRC32 crc = new CRC32();
        crc.update(body);
        return crc.getValue();
    }

    Zip plain(String name, String body) {
        byte[] row = Shelves.bytes(body);
        return add(name, 0, crc(row), row, row.length);
    }

    Zip packed(String name, byte[] data, byte[] body) {
        return add(name, 8, crc(body), data, body.length);
    }

    Zip add(String name, int way, long check, byte[] data, long length) {
        return add(name, way, check, data, length, 0, 0, 0);
    }

    /** With bytes that readers pass over: behind the local name, behind the entry's name. */
    Zip add(String name, int way, long check, byte[] data, long length, int localMore, int entryMore, int note) {
        byte[] title = Shelves.bytes(name);
        byte[] common = Shelves.join(little(20, 2), little(0, 2), little(way, 2), little(0, 2), little(33, 2),
                little(check, 4), little(data.length, 4), little(length, 4), little(title.length, 2));
        byte[] local = Shelves.join(Shelves.row(80, 75, 3, 4), common, little(localMore, 2), title,
                "m".repeat(localMore).getBytes(), data);
        entries.add(Shelves.join(Shelves.row(80, 75, 1, 2), little(20, 2), common, little(entryMore, 2),
                little(note, 2), little(0, 2), little(0, 2), little(0, 4), little(begin, 4), title,
                "e".repeat(entryMore + note).getBytes()));
        locals.add(local);
        begin += local.length;
        members++;
        return this;
    }

    /** Where the entries begin. */
    int begin() {
        return begin;
    }

    /** Where entry k begins. */
    int entry(int k) {
        int place = begin;
        for (int i = 0; i < k; i++) {
            place += entries.get(i).length;
        }
        return place;
    }

    /** Where the end begins. */
    int closing() {
        return entry(members);
    }

    byte[] done() {
        byte[] local = Shelves.join(locals.toArray(new byte[0][]));
        byte[] entry = Shelves.join(entries.toArray(new byte[0][]));
        return Shelves.join(local, entry, Shelves.row(80, 75, 5, 6), little(0, 4), little(members, 2),
                little(members, 2), little(entry.length, 4), little(begin, 4), little(0, 2));
    }

    /** The archive with one byte changed. */
    static byte[] with(byte[] archive, int place, int v) {
        byte[] row = archive.clone();
        row[place] = (byte) v;
        return row;
    }

    /** The archive with a number changed at two places. */
    static byte[] with(byte[] archive, int place, int other, int v) {
        return with(with(archive, place, v), other, v);
    }

    /** The archive with a little number of n bytes changed. */
    static byte[] number(byte[] archive, int place, int n, long number) {
        byte[] row = archive.clone();
        System.arraycopy(little(number, n), 0, row, place, n);
        return row;
    }
}
