import java.util.Arrays;

/**
 * A block of sort 2 with codes for any lengths: each length is told by a code of its own, of 4 bits,
 * so that the lengths themselves may be as wrong as a test wants.
 */
final class Tables {
    private final int[] symbols;
    private final int[] distances;

    Tables(int[] symbols, int[] distances) {
        this.symbols = symbols.clone();
        this.distances = distances.clone();
    }

    /** Lengths of so many symbols, told by pairs of a symbol and its length; 0 for others. */
    static int[] lengths(int n, int... pairs) {
        int[] lengths = new int[n];
        for (int i = 0; i < pairs.length; i += 2) {
            lengths[pairs[i]] = pairs[i + 1];
        }
        return lengths;
    }

    /** The codes of lengths: 4 bits for each of 0 .. 15. */
    private static int[] fours() {
        int[] pairs = new int[32];
        for (int i = 0; i < 16; i++) {
            pairs[2 * i] = i;
            pairs[2 * i + 1] = 4;
        }
        return pairs;
    }

    /** The block's head up to the last length. */
    Bits head(Bits bits, boolean last) {
        bits.block(last, 2).tables(symbols.length, distances.length, fours());
        for (int length : symbols) {
            bits.code(binary(length, 4));
        }
        for (int length : distances) {
            bits.code(binary(length, 4));
        }
        return bits;
    }

    Bits head() {
        return head(new Bits(), true);
    }

    String symbol(int symbol) {
        return code(symbols, symbol);
    }

    String distance(int symbol) {
        return code(distances, symbol);
    }

    private static String binary(int v, int n) {
        String text = "0".repeat(n) + Integer.toBinaryString(v);
        return text.substring(text.length() - n);
    }

    private static String code(int[] lengths, int symbol) {
        int code = 0;
        for (int length = 1; length <= lengths[symbol]; length++) {
            int now = length;
            int behind = length == lengths[symbol] ? symbol : lengths.length;
            code = 2 * code + (int) Arrays.stream(lengths, 0, behind).filter(v -> v == now).count();
        }
        return binary(code, lengths[symbol]);
    }
}
