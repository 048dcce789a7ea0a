import java.util.Arrays;

/** Makes archives of kind 0 by the words of the document, apart from the program. */
final class Tar {
    private Tar() {
    }

    static byte[] end() {
        return new byte[1024];
    }

    static byte[] file(String name, String body) {
        int rest = (512 - body.length() % 512) % 512;
        return Shelves.join(head(name, body.length(), '0'), Shelves.bytes(body), new byte[rest]);
    }

    static byte[] directory(String name) {
        return head(name + "/", 0, '5');
    }

    static byte[] head(String name, long size, int sort) {
        byte[] head = new byte[512];
        text(head, 0, name);
        text(head, 100, sort == '5' ? "0000755" : "0000644");
        text(head, 108, "0000000");
        text(head, 116, "0000000");
        text(head, 124, String.format("%011o", size));
        text(head, 136, "00000000000");
        head[156] = (byte) sort;
        text(head, 257, "ustar\u000000");
        text(head, 329, "0000000");
        text(head, 337, "0000000");
        return summed(head);
    }

    static void text(byte[] row, int place, String text) {
        System.arraycopy(Shelves.bytes(text), 0, row, place, text.length());
    }

    /** The head, its sum made anew. */
    static byte[] summed(byte[] head) {
        byte[] row = head.clone();
        Arrays.fill(row, 148, 156, (byte) ' ');
        int sum = 0;
        for (int i = 0; i < 512; i++) {
            sum += row[i] & 255;
        }
        text(row, 148, String.format("%06o\u0000 ", sum));
        return row;
    }

    /** A head with one byte changed and its sum made anew. */
    static byte[] with(byte[] head, int place, int v) {
        byte[] row = head.clone();
        row[place] = (byte) v;
        return summed(row);
    }
}
