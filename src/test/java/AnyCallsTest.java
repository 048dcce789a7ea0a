import java.util.Random;

/** Calls of all kinds at random: each throws only what its section names, by that very class. */
public final class AnyCallsTest {
    private static final Due DUE = new Due();
    private static final int[] EDGES = {0, 1, -1, -2, -3, -4, 2, 3, 8, 9, 16, 17, 90, 255, 256, 400, 512, 20000,
        Integer.MAX_VALUE, Integer.MIN_VALUE};
    private static final String IAE = "IllegalArgumentException";
    private static final String IOOBE = "IndexOutOfBoundsException";
    private static final String ISE = "IllegalStateException";
    private static final String UOE = "UnsupportedOperationException";

    private static Random random;

    public static void main(String[] args) {
        for (int run = 0; run < 1500; run++) {
            random = new Random(run);
            ArchiveShelf shelf = new ArchiveShelf();
            for (int call = 0; call < 512; call++) {
                anyCall(shelf);
            }
            DUE.same("members at most", shelf.count(0) <= 16 ? 1 : 0, 1);
        }
        DUE.close();
    }

    private static int any() {
        return random.nextInt(3) == 0 ? EDGES[random.nextInt(EDGES.length)] : random.nextInt(40) - 2;
    }

    private static void allowed(String what, Due.Call call, String... names) {
        try {
            call.run();
        } catch (RuntimeException e) {
            String name = e.getClass().getSimpleName();
            boolean named = false;
            for (String due : names) {
                named |= due.equals(name);
            }
            if (!named) {
                DUE.same(what + " throws", name, String.join(" or ", names));
            }
        }
    }

    private static void anyCall(ArchiveShelf s) {
        int a = any();
        int b = any();
        boolean flag = random.nextBoolean();
        int place = random.nextBoolean() ? a : random.nextInt(1 + s.count(2));
        switch (random.nextInt(24)) {
            case 0, 1, 2 -> allowed("type", () -> s.type(letters(), flag ? 1 + random.nextInt(4) : a), IAE, UOE);
            case 3 -> allowed("keep", () -> s.keep(a), IAE);
            case 4 -> allowed("typed", () -> s.typed(a), IOOBE);
            case 5, 6 -> allowed("come", () -> s.come(flag ? s.count(1) : a, random.nextBoolean()), IAE, ISE, UOE);
            case 7 -> allowed("go", () -> s.go(a), IOOBE);
            case 8 -> allowed("name", () -> s.name(a, b), IOOBE);
            case 9 -> allowed("byteAt", () -> s.byteAt(a, b), IOOBE);
            case 10 -> allowed("kind", s::kind);
            case 11 -> allowed("child", () -> s.child(a, b), IOOBE);
            case 12, 13 -> allowed("write", () -> s.write(flag ? random.nextInt(3) : a, random.nextBoolean()), IAE);
            case 14, 15 -> allowed("read", () -> s.read(flag ? random.nextInt(3) : a), IAE);
            case 16 -> allowed("fault", () -> s.fault(a), IOOBE);
            case 17 -> allowed("pack", s::pack);
            case 18 -> allowed("unpack", s::unpack);
            case 19 -> allowed("check", s::check);
            case 20 -> allowed("feed", () -> s.feed(random.nextInt(), a, b, a, b), UOE);
            case 21 -> allowed("end", () -> s.end(flag ? place : s.count(2) - 1), IAE);
            case 22 -> allowed("poke", () -> s.poke(place, flag ? random.nextInt(256) : b), IOOBE, IAE);
            default -> allowed("at", () -> s.at(place, flag ? 8 : b), IAE, IOOBE);
        }
        allowed("count", () -> s.count(a), IOOBE);
    }

    private static long letters() {
        long number = 0;
        for (int i = 0; i < 8; i++) {
            number = number << 8 | "ab/ab/cdef.".charAt(random.nextInt(11));
        }
        return number;
    }
}
