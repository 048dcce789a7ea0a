/** Promises 5 to 10: members come and go, their names and bytes, the tree that they make. */
public final class TreeTest {
    private static final Due DUE = new Due();

    public static void main(String[] args) {
        names();
        comeWrong();
        comeAgain();
        inTheWay();
        sixteen();
        go();
        nameAndBytes();
        kind();
        child();
        DUE.close();
    }

    private static void names() {
        String ninety = "x".repeat(90);
        for (String good : new String[] {"a", "!", "~", "...", ".a", "a.", "..a", "a/b", "a/.../b", ninety,
                "a/" + "b".repeat(88), "TRAILER!!!"}) {
            ArchiveShelf shelf = new ArchiveShelf();
            DUE.same("come " + good, Shelves.directory(shelf, good), 1);
            DUE.same("come " + good, Shelves.name(shelf, 0), good);
            DUE.same("the buffer is empty then", shelf.count(1), 0);
        }
        for (String bad : new String[] {"", " ", "a b", "\u007f", "a\u0000", "\u00ff", "\u0080", ".", "..", "/", "/a",
                "a/", "a//b", "./a", "a/.", "a/..", "../a", "a/./b", "a/../b", ninety + "x"}) {
            ArchiveShelf shelf = new ArchiveShelf();
            Shelves.type(shelf, bad);
            DUE.refused("come <" + bad + ">", shelf, IllegalArgumentException.class,
                    () -> shelf.come(bad.length(), false));
            DUE.refused("come <" + bad + "> as directory", shelf, IllegalArgumentException.class,
                    () -> shelf.come(bad.length(), true));
        }
    }

    private static void comeWrong() {
        ArchiveShelf shelf = new ArchiveShelf();
        Shelves.type(shelf, "abc");
        for (int n : new int[] {-1, 0, 4, Integer.MAX_VALUE, Integer.MIN_VALUE}) {
            DUE.refused("come " + n, shelf, IllegalArgumentException.class, () -> shelf.come(n, false));
        }
        DUE.refused("directory with bytes", shelf, IllegalArgumentException.class, () -> shelf.come(2, true));
        Shelves.type(shelf, "a" + "b".repeat(401));
        DUE.refused("401 bytes", shelf, IllegalArgumentException.class, () -> shelf.come(1, false));
        DUE.same("400 bytes", shelf.come(2, false), 1);
        DUE.same("400 bytes", shelf.name(0, -2), 400);
        Shelves.file(shelf, "f", "");
        Shelves.type(shelf, "f/a" + "b".repeat(401));
        DUE.refused("too many bytes, in the way", shelf, IllegalArgumentException.class, () -> shelf.come(3, false));
    }

    private static void comeAgain() {
        ArchiveShelf shelf = new ArchiveShelf();
        Shelves.file(shelf, "a", "1");
        Shelves.file(shelf, "b", "2");
        DUE.same("again", Shelves.file(shelf, "a", "33"), 2);
        DUE.same("again, behind all", Shelves.members(shelf), "b=2 a=33 ");
        DUE.same("again as directory", Shelves.directory(shelf, "b"), 2);
        DUE.same("again as directory", Shelves.members(shelf), "a=33 b/ ");
        Shelves.file(shelf, "b/c", "4");
        DUE.same("directory with others under it", Shelves.directory(shelf, "b"), 3);
        DUE.same("directory with others under it", Shelves.members(shelf), "a=33 b/c=4 b/ ");
        DUE.same("longer name is another", Shelves.file(shelf, "aa", ""), 4);
        DUE.same("empty file", Shelves.members(shelf), "a=33 b/c=4 b/ aa= ");
    }

    private static void inTheWay() {
        ArchiveShelf shelf = new ArchiveShelf();
        Shelves.file(shelf, "a/b/c", "1");
        Shelves.directory(shelf, "d");
        for (String bad : new String[] {"a", "a/b", "a/b/c/d", "a/b/c/d/e"}) {
            Shelves.type(shelf, bad);
            DUE.refused("in the way " + bad, shelf, IllegalStateException.class,
                    () -> shelf.come(bad.length(), false));
        }
        Shelves.type(shelf, "a/b/c/d");
        DUE.refused("directory in the way", shelf, IllegalStateException.class, () -> shelf.come(7, true));
        DUE.same("directory above", Shelves.directory(shelf, "a"), 3);
        DUE.same("file beside", Shelves.file(shelf, "a/b/cc", ""), 4);
        DUE.same("file below the directory", Shelves.file(shelf, "d/a", ""), 5);
        Shelves.type(shelf, "d");
        DUE.refused("file for directory with others", shelf, IllegalStateException.class, () -> shelf.come(1, false));
        shelf.keep(0);
        shelf.go(4);
        DUE.same("file for empty directory", Shelves.file(shelf, "d", "x"), 4);
        DUE.same("in its place", Shelves.members(shelf), "a/b/c=1 a/ a/b/cc= d=x ");
    }

    private static void sixteen() {
        ArchiveShelf shelf = new ArchiveShelf();
        for (int i = 0; i < 16; i++) {
            DUE.same("come", Shelves.file(shelf, "f" + (char) ('a' + i), "" + i), i + 1);
        }
        Shelves.type(shelf, "g");
        DUE.refused("the 17th", shelf, UnsupportedOperationException.class, () -> shelf.come(1, true));
        Shelves.type(shelf, "fa/b");
        DUE.refused("the 17th, in the way", shelf, IllegalStateException.class, () -> shelf.come(4, true));
        Shelves.type(shelf, "fa/");
        DUE.refused("the 17th, no name", shelf, IllegalArgumentException.class, () -> shelf.come(3, true));
        DUE.same("one of the 16 again", Shelves.file(shelf, "fa", "new"), 16);
        DUE.same("behind all", Shelves.name(shelf, 15), "fa");
        DUE.same("the first now", Shelves.name(shelf, 0), "fb");
        shelf.go(3);
        DUE.same("room again", Shelves.file(shelf, "g", ""), 16);
    }

    private static void go() {
        ArchiveShelf shelf = new ArchiveShelf();
        DUE.refused("go of none", shelf, IndexOutOfBoundsException.class, () -> shelf.go(0));
        Shelves.file(shelf, "a", "1");
        Shelves.file(shelf, "b", "2");
        Shelves.directory(shelf, "c");
        for (int k : new int[] {3, -1, 16, Integer.MAX_VALUE, Integer.MIN_VALUE}) {
            DUE.refused("go " + k, shelf, IndexOutOfBoundsException.class, () -> shelf.go(k));
        }
        DUE.same("go 1", shelf.go(1), 2);
        DUE.same("order", Shelves.members(shelf), "a=1 c/ ");
        DUE.same("go 0", shelf.go(0), 1);
        DUE.same("order", Shelves.members(shelf), "c/ ");
        Shelves.file(shelf, "d", "4");
        DUE.same("order", Shelves.members(shelf), "c/ d=4 ");
        DUE.same("go last", shelf.go(1), 1);
        DUE.same("go all", shelf.go(0), 0);
    }

    private static void nameAndBytes() {
        ArchiveShelf shelf = new ArchiveShelf();
        Shelves.file(shelf, "ab", Shelves.row(0, 255, 47));
        Shelves.directory(shelf, "d");
        DUE.same("name length", shelf.name(0, -1), 2);
        DUE.same("length", shelf.name(0, -2), 3);
        DUE.same("file", shelf.name(0, -3), 0);
        DUE.same("directory", shelf.name(1, -3), 1);
        DUE.same("no bytes", shelf.name(1, -2), 0);
        DUE.same("name 0", shelf.name(0, 0), 'a');
        DUE.same("name 1", shelf.name(0, 1), 'b');
        DUE.same("byte 1", shelf.byteAt(0, 1), 255);
        for (int i : new int[] {2, -4, Integer.MAX_VALUE, Integer.MIN_VALUE}) {
            DUE.refused("name i " + i, shelf, IndexOutOfBoundsException.class, () -> shelf.name(0, i));
        }
        for (int k : new int[] {2, -1, Integer.MAX_VALUE, Integer.MIN_VALUE}) {
            DUE.refused("name k " + k, shelf, IndexOutOfBoundsException.class, () -> shelf.name(k, -1));
            DUE.refused("byteAt k " + k, shelf, IndexOutOfBoundsException.class, () -> shelf.byteAt(k, 0));
        }
        for (int i : new int[] {3, -1, -2, Integer.MAX_VALUE, Integer.MIN_VALUE}) {
            DUE.refused("byteAt i " + i, shelf, IndexOutOfBoundsException.class, () -> shelf.byteAt(0, i));
        }
        DUE.refused("byteAt of a directory", shelf, IndexOutOfBoundsException.class, () -> shelf.byteAt(1, 0));
        Shelves.file(shelf, "d", "xy");
        Shelves.file(shelf, "d", "z");
        DUE.refused("byteAt of the shorter", shelf, IndexOutOfBoundsException.class, () -> shelf.byteAt(1, 1));
        DUE.refused("name of the shorter", shelf, IndexOutOfBoundsException.class, () -> shelf.name(1, 1));
    }

    private static ArchiveShelf tree() {
        ArchiveShelf shelf = new ArchiveShelf();
        Shelves.file(shelf, "b/x/1", "1");
        Shelves.directory(shelf, "a");
        Shelves.file(shelf, "b/y", "2");
        Shelves.file(shelf, "b/x/22", "3");
        Shelves.file(shelf, "bb", "4");
        Shelves.directory(shelf, "b/x");
        return shelf;
    }

    private static void kind() {
        ArchiveShelf shelf = tree();
        Shelves.file(shelf, "c1/c2/c3", "");
        DUE.same("what the last one lies under", Shelves.kind(shelf, "c1/c2"), 1);
        shelf.go(6);
        DUE.same("root", Shelves.kind(shelf, ""), 1);
        DUE.same("member directory", Shelves.kind(shelf, "a"), 1);
        DUE.same("what some lie under", Shelves.kind(shelf, "b"), 1);
        DUE.same("both", Shelves.kind(shelf, "b/x"), 1);
        DUE.same("file", Shelves.kind(shelf, "b/y"), 2);
        DUE.same("file in the root", Shelves.kind(shelf, "bb"), 2);
        for (String nothing : new String[] {"c", "b/", "b/xx", "/", "b/x/", "a/", "/a", "b/x/2", "b/y/z", "aa", ".",
                "b//x", "x".repeat(512)}) {
            DUE.same("nothing " + nothing, Shelves.kind(shelf, nothing), 0);
        }
    }

    private static void child() {
        ArchiveShelf shelf = tree();
        DUE.same("of root", Shelves.children(shelf, ""), "b a bb ");
        DUE.same("of b", Shelves.children(shelf, "b"), "x y ");
        DUE.same("of b/x", Shelves.children(shelf, "b/x"), "1 22 ");
        Shelves.file(shelf, "e/yab/1", "");
        Shelves.file(shelf, "e/yac", "");
        Shelves.file(shelf, "e/ya", "");
        Shelves.file(shelf, "e/yab/2", "");
        DUE.same("of e, alike", Shelves.children(shelf, "e"), "yab yac ya ");
        DUE.same("of root, the last ones alike", Shelves.children(shelf, ""), "b a bb e ");
        for (int k = 9; k > 5; k--) {
            shelf.go(k);
        }
        DUE.same("of an empty directory", Shelves.children(shelf, "a"), "");
        DUE.same("of a file", Shelves.children(shelf, "bb"), "");
        DUE.same("of nothing", Shelves.children(shelf, "b/"), "");
        DUE.same("of nothing", Shelves.children(shelf, "x".repeat(512)), "");
        shelf.keep(0);
        DUE.refused("NONE with 0", shelf, IndexOutOfBoundsException.class, () -> shelf.child(-1, 0));
        DUE.refused("NONE with -2", shelf, IndexOutOfBoundsException.class, () -> shelf.child(-1, -2));
        for (int k : new int[] {3, -2, Integer.MAX_VALUE, Integer.MIN_VALUE}) {
            DUE.refused("child " + k, shelf, IndexOutOfBoundsException.class, () -> shelf.child(k, -1));
        }
        for (int i : new int[] {1, -2, -3, Integer.MAX_VALUE, Integer.MIN_VALUE}) {
            DUE.refused("byte " + i, shelf, IndexOutOfBoundsException.class, () -> shelf.child(0, i));
        }
        DUE.same("length", shelf.child(2, -1), 2);
        DUE.same("byte", shelf.child(2, 1), 'b');
    }
}
