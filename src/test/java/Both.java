import java.util.function.LongSupplier;

/** The program and the plain shelf, called alike: each answer of the one is due from the other. */
final class Both {
    final ArchiveShelf program = new ArchiveShelf();
    final PlainShelf plain = new PlainShelf();
    private final Due due;
    private final String run;
    private int calls = 0;

    Both(Due due, String run) {
        this.due = due;
        this.run = run;
    }

    int calls() {
        return calls;
    }

    private void call(String what, LongSupplier one, LongSupplier other) {
        calls++;
        String want = answer(other);
        due.same(run + ", call " + calls + " " + what, answer(one), want);
    }

    private static String answer(LongSupplier call) {
        try {
            return "" + call.getAsLong();
        } catch (RuntimeException e) {
            return e.getClass().getSimpleName();
        }
    }

    void type(long bytes, int n) {
        call("type(" + bytes + ", " + n + ")", () -> program.type(bytes, n), () -> plain.type(bytes, n));
    }

    void keep(int n) {
        call("keep(" + n + ")", () -> {
            program.keep(n);
            return 0;
        }, () -> {
            plain.keep(n);
            return 0;
        });
    }

    void typed(int i) {
        call("typed(" + i + ")", () -> program.typed(i), () -> plain.typed(i));
    }

    void come(int n, boolean directory) {
        call("come(" + n + ", " + directory + ")", () -> program.come(n, directory), () -> plain.come(n, directory));
    }

    void go(int k) {
        call("go(" + k + ")", () -> program.go(k), () -> plain.go(k));
    }

    void name(int k, int i) {
        call("name(" + k + ", " + i + ")", () -> program.name(k, i), () -> plain.name(k, i));
    }

    void byteAt(int k, int i) {
        call("byteAt(" + k + ", " + i + ")", () -> program.byteAt(k, i), () -> plain.byteAt(k, i));
    }

    void kind() {
        call("kind()", program::kind, plain::kind);
    }

    void child(int k, int i) {
        call("child(" + k + ", " + i + ")", () -> program.child(k, i), () -> plain.child(k, i));
    }

    void write(int kind, boolean packed) {
        call("write(" + kind + ", " + packed + ")", () -> program.write(kind, packed), () -> plain.write(kind, packed));
    }

    void read(int kind) {
        call("read(" + kind + ")", () -> program.read(kind), () -> plain.read(kind));
    }

    void fault(int what) {
        call("fault(" + what + ")", () -> program.fault(what), () -> plain.fault(what));
    }

    void pack() {
        call("pack()", program::pack, plain::pack);
    }

    void unpack() {
        call("unpack()", program::unpack, plain::unpack);
    }

    void check() {
        call("check()", program::check, plain::check);
    }

    void feed(int a, int b, int c, int d, int e) {
        call("feed", () -> program.feed(a, b, c, d, e), () -> plain.feed(a, b, c, d, e));
    }

    void end(int n) {
        call("end(" + n + ")", () -> {
            program.end(n);
            return 0;
        }, () -> {
            plain.end(n);
            return 0;
        });
    }

    void poke(int i, int v) {
        call("poke(" + i + ", " + v + ")", () -> program.poke(i, v), () -> plain.poke(i, v));
    }

    void at(int i, int n) {
        call("at(" + i + ", " + n + ")", () -> program.at(i, n), () -> plain.at(i, n));
    }

    void count(int what) {
        call("count(" + what + ")", () -> program.count(what), () -> plain.count(what));
    }

    /** All that calls can tell is the same of both. */
    void compare() {
        due.same(run + ", state behind call " + calls, Shelves.state(program), plain.state());
    }
}
