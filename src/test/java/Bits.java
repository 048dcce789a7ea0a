import java.util.Arrays;

/** Makes packed bytes bit by bit, by the words of the document, apart from the program. */
final class Bits {
    private static final int[] ORDER = {16, 17, 18, 0, 8, 7, 9, 6, 10, 5, 11, 4, 12, 3, 13, 2, 14, 1, 15};

    private final StringBuilder bits = new StringBuilder();

    /** A number of n bits, the lowest first. */
    Bits number(int v, int n) {
        for (int i = 0; i < n; i++) {
            bits.append(v >> i & 1);
        }
        return this;
    }

    /** A code, written as its bits. */
    Bits code(String code) {
        bits.append(code);
        return this;
    }

    Bits block(boolean last, int sort) {
        return number(last ? 1 : 0, 1).number(sort, 2);
    }

    /** A symbol in codes of fixed lengths. */
    Bits fixed(int symbol) {
        int code;
        int n;
        if (symbol <= 143) {
            code = 0b00110000 + symbol;
            n = 8;
        } else if (symbol <= 255) {
            code = 0b110010000 + symbol - 144;
            n = 9;
        } else if (symbol <= 279) {
            code = symbol - 256;
            n = 7;
        } else {
            code = 0b11000000 + symbol - 280;
            n = 8;
        }
        return high(code, n);
    }

    /** A distance's symbol in codes of fixed lengths. */
    Bits far(int symbol) {
        return high(symbol, 5);
    }

    private Bits high(int code, int n) {
        for (int i = n - 1; i >= 0; i--) {
            bits.append(code >> i & 1);
        }
        return this;
    }

    /** The head of a block of sort 2 up to the lengths for codes of lengths, told by symbol. */
    Bits tables(int h, int k, int... symbolsAndLengths) {
        number(h - 257, 5).number(k - 1, 5).number(15, 4);
        for (int symbol : ORDER) {
            int length = 0;
            for (int i = 0; i < symbolsAndLengths.length; i += 2) {
                if (symbolsAndLengths[i] == symbol) {
                    length = symbolsAndLengths[i + 1];
                }
            }
            number(length, 3);
        }
        return this;
    }

    /** The rest of the byte's bits. */
    Bits rest() {
        while (bits.length() % 8 != 0) {
            bits.append('0');
        }
        return this;
    }

    Bits bytes(int... row) {
        for (int v : row) {
            number(v, 8);
        }
        return this;
    }

    /** The bits so far fill so many bytes, and no bit more. */
    int length() {
        return (bits.length() + 7) / 8;
    }

    int bitCount() {
        return bits.length();
    }

    byte[] done() {
        byte[] row = new byte[length()];
        for (int i = 0; i < bits.length(); i++) {
            row[i / 8] |= (bits.charAt(i) - '0') << i % 8;
        }
        return row;
    }

    /** Only whole bytes: what lacks to a byte is cut. */
    byte[] cut() {
        return Arrays.copyOf(done(), bits.length() / 8);
    }
}
