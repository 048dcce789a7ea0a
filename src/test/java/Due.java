import java.util.Arrays;

/** Counts the answers of one test that are not the ones that are due. */
final class Due {
    interface Call {
        void run();
    }

    private static final int MOST_LINES = 100;

    private int wrong = 0;
    private int asked = 0;

    void same(String what, long got, long want) {
        asked++;
        if (got != want) {
            report(what + " answered " + got + ", due is " + want);
        }
    }

    void same(String what, String got, String want) {
        asked++;
        if (!got.equals(want)) {
            report(what + " answered " + got + ", due is " + want);
        }
    }

    void same(String what, byte[] got, byte[] want) {
        asked++;
        if (!Arrays.equals(got, want)) {
            report(what + ": " + got.length + " bytes, due are " + want.length
                    + ", the first that differs is " + Arrays.mismatch(got, want));
        }
    }

    /** The call throws exactly this and leaves the shelf as it was. */
    void refused(String what, ArchiveShelf shelf, Class<? extends RuntimeException> due, Call call) {
        String before = Shelves.state(shelf);
        String got = "nothing";
        try {
            call.run();
        } catch (RuntimeException e) {
            got = e.getClass().getSimpleName();
        }
        same(what + " throws", got, due.getSimpleName());
        same(what + " leaves", Shelves.state(shelf), before);
    }

    private void report(String text) {
        wrong++;
        if (wrong <= MOST_LINES) {
            System.out.println(text);
        }
    }

    void close() {
        System.out.println(asked + " answers, " + wrong + " not as due");
        if (wrong != 0) {
            System.exit(1);
        }
    }
}
