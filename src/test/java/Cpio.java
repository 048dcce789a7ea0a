/** Makes archives of kind 1 by the words of the document, apart from the program. */
final class Cpio {
    private Cpio() {
    }

    static byte[] file(int number, String name, String body) {
        return member(number, 0x81a4, name, body);
    }

    static byte[] directory(int number, String name) {
        return member(number, 0x41ed, name, "");
    }

    private static byte[] member(int number, int mode, String name, String body) {
        return Shelves.join(head(number, mode, body.length(), name.length() + 1), padded(110, name + "\u0000"),
                padded(0, body));
    }

    static byte[] end() {
        return Shelves.join(head(0, 0, 0, 11), padded(110, "TRAILER!!!\u0000"));
    }

    static byte[] head(int number, int mode, int size, int nameLength) {
        int[] numbers = {number, mode, 1, 0, 0, 0, size, 0, 0, 0, 0, nameLength, 0};
        StringBuilder text = new StringBuilder("070701");
        for (int n : numbers) {
            text.append(String.format("%08x", n));
        }
        return Shelves.bytes(text.toString());
    }

    /** Zeros behind the text up to a multiple of 4, of which so many bytes stand before it. */
    static byte[] padded(int before, String text) {
        StringBuilder padded = new StringBuilder(text);
        while ((before + padded.length()) % 4 != 0) {
            padded.append('\u0000');
        }
        return Shelves.bytes(padded.toString());
    }

    /** The archive with a text at a place. */
    static byte[] with(byte[] archive, int place, String text) {
        byte[] row = archive.clone();
        Tar.text(row, place, text);
        return row;
    }
}
