/** Packs bytes by the words of the document, apart from the program. */
final class PlainPacker {
    private PlainPacker() {
    }

    /** From the left the longest row, by trying each length and each place. */
    static byte[] packed(byte[] row) {
        Bits bits = new Bits().block(true, 1);
        int i = 0;
        while (i < row.length) {
            int best = 0;
            int far = 0;
            for (int distance = 1; distance <= i; distance++) {
                int n = 0;
                while (n < 258 && i + n < row.length && row[i + n] == row[i + n - distance]) {
                    n++;
                }
                if (n > best) {
                    best = n;
                    far = distance;
                }
            }
            if (best < 3) {
                bits.fixed(row[i] & 255);
                i++;
            } else {
                length(bits, best);
                distance(bits, far);
                i += best;
            }
        }
        return bits.fixed(256).done();
    }

    private static void length(Bits bits, int length) {
        if (length == 258) {
            bits.fixed(285);
            return;
        }
        int least = 3;
        for (int symbol = 257; symbol <= 284; symbol++) {
            int more = symbol < 265 ? 0 : (symbol - 261) / 4;
            if (length < least + (1 << more)) {
                bits.fixed(symbol).number(length - least, more);
                return;
            }
            least += 1 << more;
        }
    }

    private static void distance(Bits bits, int distance) {
        int least = 1;
        for (int symbol = 0; symbol < 30; symbol++) {
            int more = symbol < 4 ? 0 : symbol / 2 - 1;
            if (distance < least + (1 << more)) {
                bits.far(symbol).number(distance - least, more);
                return;
            }
            least += 1 << more;
        }
    }
}
