import java.util.Random;

/** Calls of all kinds at random: each answers or throws what the plain shelf does. */
public final class AnyCallsTest {
    private static final Due DUE = new Due();
    private static final int[] EDGES = {0, 1, -1, -2, -3, -4, 2, 3, 8, 9, 15, 16, 17, 90, 255, 256, 400, 512, 20000,
        Integer.MAX_VALUE, Integer.MIN_VALUE};
    private static final String LETTERS = "aaabbc//.";

    private static Random random;
    private static Both both;

    public static void main(String[] args) {
        for (int run = 0; run < 700; run++) {
            random = new Random(run);
            both = new Both(DUE, "run " + run);
            while (both.calls() < 480) {
                anyStep();
            }
            both.compare();
        }
        DUE.close();
    }

    private static int any() {
        return random.nextInt(3) == 0 ? EDGES[random.nextInt(EDGES.length)] : random.nextInt(24) - 2;
    }

    private static boolean seldom(int n) {
        return random.nextInt(n) == 0;
    }

    private static void anyStep() {
        switch (random.nextInt(12)) {
            case 0, 1, 2 -> member();
            case 3 -> path();
            case 4, 5 -> archive();
            case 6 -> packed();
            case 7 -> tape();
            default -> anyCall();
        }
    }

    private static long letters(int n) {
        long number = seldom(9) ? random.nextLong() : 0;
        for (int i = 0; i < n; i++) {
            number = number << 8 | LETTERS.charAt(random.nextInt(LETTERS.length()));
        }
        return number;
    }

    private static void typeName() {
        both.keep(0);
        int n = 1 + random.nextInt(seldom(3) ? 5 : 3);
        both.type(letters(n), n);
    }

    private static void member() {
        typeName();
        int n = both.program.count(1);
        boolean directory = seldom(3);
        for (int i = seldom(8) ? random.nextInt(56) : random.nextInt(3); i > 0 && !directory; i--) {
            both.type(seldom(2) ? random.nextLong() : letters(8), 8);
        }
        both.come(seldom(20) ? any() : n, directory);
    }

    private static void path() {
        typeName();
        both.kind();
        both.child(-1, -1);
        both.child(random.nextInt(3), -1);
        both.child(random.nextInt(3), random.nextInt(3));
    }

    private static void archive() {
        int kind = random.nextInt(3);
        both.write(kind, random.nextBoolean());
        for (int i = random.nextInt(3); i > 0; i--) {
            change();
        }
        both.read(seldom(10) ? random.nextInt(3) : kind);
        both.fault(0);
        both.fault(1);
    }

    private static void packed() {
        both.pack();
        if (seldom(2)) {
            change();
        }
        both.unpack();
        both.fault(0);
        both.fault(1);
    }

    private static void change() {
        int n = both.program.count(2);
        if (n == 0) {
            return;
        }
        int place = seldom(3) ? n - 1 - random.nextInt(Math.min(n, 100)) : random.nextInt(n);
        switch (random.nextInt(8)) {
            case 0 -> both.end(place);
            case 1 -> both.feed(0, 0, 0, 0, seldom(2) ? 1 : 0);
            case 2, 3 -> both.poke(place, random.nextInt(256));
            default -> both.poke(place, ((int) both.program.at(place, 1) ^ 1 << random.nextInt(8)) & 255);
        }
    }

    private static void tape() {
        both.end(0);
        for (int i = random.nextInt(4); i >= 0; i--) {
            both.feed(random.nextInt(), random.nextInt(), random.nextInt(), random.nextInt(), random.nextInt());
        }
        if (both.program.count(2) > 0) {
            both.end(random.nextInt(both.program.count(2)));
        }
        both.unpack();
        both.fault(0);
        both.fault(1);
    }

    private static void anyCall() {
        int a = any();
        int b = any();
        switch (random.nextInt(20)) {
            case 0 -> both.type(random.nextLong(), a);
            case 1 -> both.keep(a);
            case 2 -> both.typed(a);
            case 3 -> both.come(a, random.nextBoolean());
            case 4 -> both.go(a);
            case 5 -> both.name(a, b);
            case 6 -> both.byteAt(a, b);
            case 7 -> both.kind();
            case 8 -> both.child(a, b);
            case 9 -> both.write(a, random.nextBoolean());
            case 10 -> both.read(a);
            case 11 -> both.fault(a);
            case 12 -> both.pack();
            case 13 -> both.unpack();
            case 14 -> both.check();
            case 15 -> both.feed(a, b, a, b, a);
            case 16 -> both.end(a);
            case 17 -> both.poke(a, b);
            case 18 -> both.at(a, b);
            default -> both.count(a);
        }
    }
}
