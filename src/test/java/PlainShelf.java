import java.nio.charset.StandardCharsets;
import java.util.ArrayList;
import java.util.Arrays;
import java.util.LinkedHashSet;
import java.util.List;
import java.util.zip.CRC32;

/** The whole face by the words of the document, apart from the program, in the plainest form. */
final class PlainShelf {
    private byte[] buffer = {};
    private byte[] tape = {};
    private List<PlainReader.Member> members = new ArrayList<>();
    private int fault = 0;
    private int place = -1;

    int type(long bytes, int n) {
        argument(n >= 1 && n <= 8);
        if (buffer.length + n > 512) {
            throw new UnsupportedOperationException();
        }
        byte[] more = new byte[n];
        for (int i = 0; i < n; i++) {
            more[n - 1 - i] = (byte) (bytes >> 8 * i);
        }
        buffer = Shelves.join(buffer, more);
        return buffer.length;
    }

    void keep(int n) {
        argument(n >= 0 && n <= buffer.length);
        buffer = Arrays.copyOf(buffer, n);
    }

    int typed(int i) {
        index(i >= 0 && i < buffer.length);
        return buffer[i] & 255;
    }

    int come(int n, boolean directory) {
        argument(n >= 0 && n <= buffer.length);
        String name = text(Arrays.copyOf(buffer, n));
        argument(PlainReader.isName(name));
        byte[] body = Arrays.copyOfRange(buffer, n, buffer.length);
        argument(body.length <= (directory ? 0 : 400));
        if (PlainReader.isInTheWay(members, name, directory)) {
            throw new IllegalStateException();
        }
        if (!PlainReader.comes(members, new PlainReader.Member(name, directory, body))) {
            throw new UnsupportedOperationException();
        }
        buffer = new byte[0];
        return members.size();
    }

    int go(int k) {
        member(k);
        members.remove(k);
        return members.size();
    }

    int name(int k, int i) {
        PlainReader.Member member = member(k);
        if (i >= -3 && i < 0) {
            return i == -1 ? member.name().length() : i == -2 ? member.body().length : member.directory() ? 1 : 0;
        }
        index(i >= 0 && i < member.name().length());
        return member.name().charAt(i);
    }

    int byteAt(int k, int i) {
        byte[] body = member(k).body();
        index(i >= 0 && i < body.length);
        return body[i] & 255;
    }

    int kind() {
        String path = text(buffer);
        int kind = path.isEmpty() ? 1 : 0;
        for (PlainReader.Member member : members) {
            if (member.name().equals(path)) {
                return member.directory() ? 1 : 2;
            }
            if (member.name().startsWith(path + "/")) {
                kind = 1;
            }
        }
        return kind;
    }

    int child(int k, int i) {
        String before = buffer.length == 0 ? "" : text(buffer) + "/";
        LinkedHashSet<String> parts = new LinkedHashSet<>();
        for (PlainReader.Member member : members) {
            if (member.name().startsWith(before)) {
                parts.add(member.name().substring(before.length()).split("/")[0]);
            }
        }
        if (k == -1) {
            index(i == -1);
            return parts.size();
        }
        index(k >= 0 && k < parts.size());
        String part = new ArrayList<>(parts).get(k);
        if (i == -1) {
            return part.length();
        }
        index(i >= 0 && i < part.length());
        return part.charAt(i);
    }

    int write(int kind, boolean packed) {
        argument(kind >= 0 && kind <= 2);
        tape = kind == 2 ? entries(packed) : rows(kind);
        return tape.length;
    }

    private byte[] rows(int kind) {
        byte[] all = {};
        for (int k = 0; k < members.size(); k++) {
            String name = members.get(k).name();
            String body = text(members.get(k).body());
            boolean directory = members.get(k).directory();
            byte[] blocks = directory ? Tar.directory(name) : Tar.file(name, body);
            byte[] digits = directory ? Cpio.directory(k + 1, name) : Cpio.file(k + 1, name, body);
            all = Shelves.join(all, kind == 0 ? blocks : digits);
        }
        return Shelves.join(all, kind == 0 ? Tar.end() : Cpio.end());
    }

    private byte[] entries(boolean packed) {
        Zip zip = new Zip();
        for (PlainReader.Member member : members) {
            if (packed && member.body().length > 0) {
                zip.packed(member.name(), PlainPacker.packed(member.body()), member.body());
            } else {
                zip.plain(member.directory() ? member.name() + "/" : member.name(), text(member.body()));
            }
        }
        return zip.done();
    }

    int read(int kind) {
        argument(kind >= 0 && kind <= 2);
        try {
            members = PlainReader.read(kind, tape);
            told(0, -1);
            return members.size();
        } catch (PlainReader.Fault e) {
            return told(e.number, e.place);
        }
    }

    private int told(int number, int where) {
        fault = number;
        place = where;
        return -1;
    }

    int fault(int what) {
        index(what == 0 || what == 1);
        return what == 0 ? fault : place;
    }

    int pack() {
        tape = PlainPacker.packed(buffer);
        return tape.length;
    }

    int unpack() {
        try {
            buffer = PlainReader.unpack(tape, 512);
            told(0, -1);
            return buffer.length;
        } catch (PlainReader.Fault e) {
            return told(e.number, e.place);
        }
    }

    int check() {
        CRC32 check = new CRC32();
        check.update(buffer);
        return (int) check.getValue();
    }

    int feed(int a, int b, int c, int d, int e) {
        if (tape.length + 20 > 20000) {
            throw new UnsupportedOperationException();
        }
        byte[] more = new byte[20];
        int[] numbers = {a, b, c, d, e};
        for (int i = 0; i < 20; i++) {
            more[i] = (byte) (numbers[i / 4] >> 24 - 8 * (i % 4));
        }
        tape = Shelves.join(tape, more);
        return tape.length;
    }

    void end(int n) {
        argument(n >= 0 && n <= tape.length);
        tape = Arrays.copyOf(tape, n);
    }

    int poke(int i, int v) {
        index(i >= 0 && i < tape.length);
        argument(v >= 0 && v <= 255);
        int old = tape[i] & 255;
        tape[i] = (byte) v;
        return old;
    }

    long at(int i, int n) {
        argument(n >= 1 && n <= 8);
        index(i >= 0 && (long) i + n <= tape.length);
        long number = 0;
        for (int j = i; j < i + n; j++) {
            number = number * 256 + (tape[j] & 255);
        }
        return number;
    }

    int count(int what) {
        index(what >= 0 && what <= 2);
        return what == 0 ? members.size() : what == 1 ? buffer.length : tape.length;
    }

    /** As Shelves.state tells it of the program. */
    String state() {
        StringBuilder all = new StringBuilder();
        for (PlainReader.Member member : members) {
            all.append(member.name()).append(member.directory() ? "/" : "=").append(text(member.body())).append(' ');
        }
        return all + "|" + text(buffer) + "|" + text(tape) + "|" + fault + " " + place;
    }

    private PlainReader.Member member(int k) {
        index(k >= 0 && k < members.size());
        return members.get(k);
    }

    private static String text(byte[] row) {
        return new String(row, StandardCharsets.ISO_8859_1);
    }

    private static void argument(boolean holds) {
        if (!holds) {
            throw new IllegalArgumentException();
        }
    }

    private static void index(boolean holds) {
        if (!holds) {
            throw new IndexOutOfBoundsException();
        }
    }
}
