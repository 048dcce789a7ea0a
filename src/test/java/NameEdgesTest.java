/** Part 1 and the terms of the document, at their edges: by come() and by each kind of archive. */
public final class NameEdgesTest {
    private static final Due DUE = new Due();

    public static void main(String[] args) {
        lengthsOfNames();
        bytesOfNames();
        partsOfNames();
        liesUnder();
        fileOverOthers();
        underAFile();
        notCountingWhatGoes();
        comesBehindAllOthers();
        atMost16();
        atMost400();
        directoriesHaveNoBytes();
        noTwoTheSame();
        DUE.close();
    }

    /** This name, or none, by all ways in which a name is told. */
    private static void name(String name, boolean good) {
        byCall(name, good);
        if (name.indexOf(0) < 0) {
            inBlocks(name, good);
        }
        inDigits(name, good);
        if (!name.endsWith("/")) {
            atTheEnd(name, good);
        }
    }

    private static void byCall(String name, boolean good) {
        for (boolean directory : new boolean[] {false, true}) {
            ArchiveShelf shelf = new ArchiveShelf();
            Shelves.type(shelf, name);
            String what = "come <" + name + "> " + directory;
            if (good) {
                DUE.same(what, shelf.come(name.length(), directory), 1);
                DUE.same(what, Shelves.members(shelf), name + (directory ? "/ " : "= "));
                DUE.same(what + ": the buffer is empty then", shelf.count(1), 0);
            } else {
                DUE.refused(what, shelf, IllegalArgumentException.class, () -> shelf.come(name.length(), directory));
            }
        }
    }

    private static void told(String what, int kind, byte[] tape, boolean good, String members, int place) {
        if (good) {
            Shelves.sound(DUE, what, kind, tape, members);
        } else {
            Shelves.fault(DUE, what, kind, tape, 10, place);
        }
    }

    private static void inBlocks(String name, boolean good) {
        byte[] first = Tar.file("0", "1");
        told("blocks, file <" + name + ">", 0, Shelves.join(first, Tar.file(name, ""), Tar.end()), good,
                "0=1 " + name + "= ", 1024);
        told("blocks, directory <" + name + ">", 0, Shelves.join(first, Tar.directory(name), Tar.end()), good,
                "0=1 " + name + "/ ", 1024);
    }

    private static void inDigits(String name, boolean good) {
        byte[] first = Cpio.file(1, "0", "1");
        told("digits, file <" + name + ">", 1, Shelves.join(first, Cpio.file(2, name, ""), Cpio.end()), good,
                "0=1 " + name + "= ", first.length + 110);
        told("digits, directory <" + name + ">", 1, Shelves.join(first, Cpio.directory(2, name), Cpio.end()), good,
                "0=1 " + name + "/ ", first.length + 110);
    }

    private static void atTheEnd(String name, boolean good) {
        Zip file = new Zip().plain("0", "1").plain(name, "");
        told("end, file <" + name + ">", 2, file.done(), good, "0=1 " + name + "= ", file.entry(1) + 46);
        Zip directory = new Zip().plain("0", "1").plain(name + "/", "");
        told("end, directory <" + name + ">", 2, directory.done(), good, "0=1 " + name + "/ ",
                directory.entry(1) + 46);
    }

    /** "A NAME: 1 .. 90 bytes". */
    private static void lengthsOfNames() {
        for (int n : new int[] {0, 1, 2, 89, 90, 91, 92, 98, 99}) {
            name("n".repeat(n), n >= 1 && n <= 90);
        }
        for (int n : new int[] {89, 90, 91}) {
            name("p/".repeat(20) + "n".repeat(n - 40), n <= 90);
        }
        byCall("n".repeat(512), false);
    }

    /** "each 33 .. 126". */
    private static void bytesOfNames() {
        for (int v = 0; v < 256; v++) {
            char c = (char) v;
            boolean good = v >= 33 && v <= 126;
            byCall("" + c, good && c != '.' && c != '/');
            byCall("a" + c, good && c != '/');
            byCall(c + "a", good && c != '/');
            byCall("a" + c + "b", good);
            byCall("a/" + c, good && c != '.' && c != '/');
            byCall("n".repeat(89) + c, good && c != '/');
        }
        for (int v : new int[] {0, 31, 32, 33, 34, 125, 126, 127, 128, 255}) {
            char c = (char) v;
            boolean good = v >= 33 && v <= 126;
            name("a" + c + "b", good);
            name("ab" + c + c, good);
            name("n".repeat(88) + c + c, good);
        }
    }

    /** "a slash (47) parts it; no part is empty, none is . or .. (bytes 46)". */
    private static void partsOfNames() {
        for (String good : new String[] {"a/b", "a/b/c", "a.b", "a0b", "...", "....", ".a", "a.", "..a", "a..", ".-",
            "-.", ".-.", "a/...", ".../a", "a/.../b", "a/.b", "a/b.", "a/..b", "a/b..", ".a/b", "..a/b", "a./b", "a../b"}) {
            name(good, true);
        }
        for (String bad : new String[] {"/", "//", "/a", "//a", "a//b", "a///b", "a/b//c", ".", "..", "./a", "../a",
            "a/.", "a/..", "a/./b", "a/../b", "./.", "../..", "a/b/.", "a/b/..", "a/", "a/b/", "a//"}) {
            byCall(bad, false);
            inDigits(bad, false);
            if (!bad.endsWith("/")) {
                name(bad, false);
            }
        }
        // One slash at a directory's end is no part of its name in kinds 0 and 2; of a second one the
        // last part is empty.
        for (String bad : new String[] {"/", "a/", "a/b/"}) {
            told("blocks, <" + bad + ">", 0, Shelves.join(Tar.file(bad, ""), Tar.end()), false, "", 0);
            told("blocks, directory <" + bad + "/>", 0, Shelves.join(Tar.directory(bad), Tar.end()), false, "", 0);
            Zip zip = new Zip().plain(bad + "/", "");
            told("end, <" + bad + "/>", 2, zip.done(), false, "", zip.entry(0) + 46);
        }
    }

    /** "One LIES UNDER another name, if it is that, a slash, and more." */
    private static void liesUnder() {
        // 46 and 48 are the bytes beside a slash.
        for (String beside : new String[] {"b", "aa", "a.b", "a0b", "ab/c", "b/a", "b/a/c", "A/b"}) {
            ArchiveShelf shelf = new ArchiveShelf();
            Shelves.file(shelf, "a", "");
            DUE.same(beside + " does not lie under a", Shelves.file(shelf, beside, ""), 2);
            DUE.same(beside + " and a", Shelves.children(shelf, "a"), "");
        }
        ArchiveShelf shelf = new ArchiveShelf();
        Shelves.directory(shelf, "a");
        for (String under : new String[] {"a/b", "a/bb", "a/c/d", "a/a", "a/x/a"}) {
            int n = shelf.count(0);
            DUE.same(under + " lies under a", Shelves.file(shelf, under, ""), n + 1);
        }
        DUE.same("under a", Shelves.children(shelf, "a"), "b bb c a x ");
        Shelves.type(shelf, "a");
        DUE.refused("a has others under it", shelf, IllegalStateException.class, () -> shelf.come(1, false));
    }

    /** "It is IN THE WAY if it is a file under whose name others lie". */
    private static void fileOverOthers() {
        for (boolean directory : new boolean[] {false, true}) {
            ArchiveShelf shelf = new ArchiveShelf();
            Shelves.type(shelf, "a/b/c");
            shelf.come(5, directory);
            for (String over : new String[] {"a", "a/b"}) {
                Shelves.type(shelf, over);
                DUE.refused("file " + over, shelf, IllegalStateException.class,
                        () -> shelf.come(over.length(), false));
            }
            DUE.same("directory a", Shelves.directory(shelf, "a"), 2);
            DUE.same("directory a/b", Shelves.directory(shelf, "a/b"), 3);
            Shelves.type(shelf, "a/b");
            DUE.refused("file for directory a/b", shelf, IllegalStateException.class, () -> shelf.come(3, false));
            shelf.keep(0);
            shelf.go(0);
            DUE.same("file for directory a/b with none under it", Shelves.file(shelf, "a/b", ""), 2);
        }
    }

    /** "or if it lies under a file's name". "Nothing on the shelf lies under the name of a file." */
    private static void underAFile() {
        ArchiveShelf shelf = new ArchiveShelf();
        Shelves.file(shelf, "a/b", "");
        for (String under : new String[] {"a/b/c", "a/b/c/d", "a/b/b"}) {
            Shelves.type(shelf, under);
            DUE.refused("file " + under, shelf, IllegalStateException.class,
                    () -> shelf.come(under.length(), false));
            DUE.refused("directory " + under, shelf, IllegalStateException.class,
                    () -> shelf.come(under.length(), true));
        }
        DUE.same("beside it", Shelves.file(shelf, "a/bb", ""), 2);
        Shelves.directory(shelf, "a/b");
        DUE.same("under what is a directory now", Shelves.file(shelf, "a/b/c", ""), 3);
        shelf.go(1);
        shelf.go(1);
        DUE.same("with neither", Shelves.file(shelf, "a/b/c/d", ""), 2);
    }

    /** "(not counting what goes)". */
    private static void notCountingWhatGoes() {
        ArchiveShelf shelf = new ArchiveShelf();
        Shelves.file(shelf, "a", "1");
        DUE.same("file for file", Shelves.file(shelf, "a", "2"), 1);
        DUE.same("directory for file", Shelves.directory(shelf, "a"), 1);
        DUE.same("directory for directory", Shelves.directory(shelf, "a"), 1);
        DUE.same("file for directory", Shelves.file(shelf, "a", "3"), 1);
        DUE.same("the last one", Shelves.members(shelf), "a=3 ");
        byte[] tape = Shelves.join(Tar.file("a", "1"), Tar.directory("a"), Tar.file("a", "2"), Tar.end());
        Shelves.sound(DUE, "blocks", 0, tape, "a=2 ");
        tape = Shelves.join(Cpio.file(1, "a", "1"), Cpio.directory(2, "a"), Cpio.file(3, "a", "2"), Cpio.end());
        Shelves.sound(DUE, "digits", 1, tape, "a=2 ");
        Shelves.sound(DUE, "end", 2, new Zip().plain("a", "1").plain("a/", "").plain("a", "2").done(), "a=2 ");
    }

    /** "that with its name goes, if there is one, then it stands behind all others." */
    private static void comesBehindAllOthers() {
        for (String again : new String[] {"a", "b", "c"}) {
            ArchiveShelf shelf = new ArchiveShelf();
            Shelves.file(shelf, "a", "1");
            Shelves.file(shelf, "b", "22");
            Shelves.file(shelf, "c", "333");
            DUE.same("again " + again, Shelves.file(shelf, again, "4"), 3);
            DUE.same("again " + again, Shelves.members(shelf),
                    "a=1 b=22 c=333 ".replaceAll(again + "=\\d+ ", "") + again + "=4 ");
        }
        ArchiveShelf shelf = new ArchiveShelf();
        DUE.same("the first", Shelves.file(shelf, "a", "1"), 1);
        DUE.same("a new one", Shelves.file(shelf, "A", "2"), 2);
        DUE.same("behind it", Shelves.members(shelf), "a=1 A=2 ");
    }

    /** "THE SHELF has at most 16 MEMBERS, in order". */
    private static void atMost16() {
        ArchiveShelf shelf = new ArchiveShelf();
        StringBuilder members = new StringBuilder();
        for (int i = 1; i <= 16; i++) {
            DUE.same("member " + i, Shelves.file(shelf, "m" + i, ""), i);
            members.append("m").append(i).append("= ");
        }
        DUE.same("16 in order", Shelves.members(shelf), members.toString());
        Shelves.type(shelf, "m17");
        DUE.refused("the 17th file", shelf, UnsupportedOperationException.class, () -> shelf.come(3, false));
        DUE.refused("the 17th directory", shelf, UnsupportedOperationException.class, () -> shelf.come(3, true));
        DUE.same("the 16th again", Shelves.directory(shelf, "m16"), 16);
        DUE.same("15 are left", shelf.go(0), 15);
        DUE.same("the 16th once more", Shelves.file(shelf, "m17", ""), 16);
    }

    /** "a FILE of at most 400 bytes". */
    private static void atMost400() {
        for (int n : new int[] {0, 1, 399, 400, 401}) {
            ArchiveShelf shelf = new ArchiveShelf();
            Shelves.type(shelf, "f" + "b".repeat(n));
            if (n <= 400) {
                DUE.same("come with " + n, shelf.come(1, false), 1);
                DUE.same("come with " + n, shelf.name(0, -2), n);
            } else {
                DUE.refused("come with " + n, shelf, IllegalArgumentException.class, () -> shelf.come(1, false));
            }
            String body = "b".repeat(n);
            size("blocks " + n, 0, Shelves.join(Tar.file("f", body), Tar.end()), n, 124);
            size("digits " + n, 1, Shelves.join(Cpio.file(1, "f", body), Cpio.end()), n, 54);
            Zip plain = new Zip().plain("f", body);
            size("end, plain " + n, 2, plain.done(), n, plain.entry(0) + 24);
            byte[] row = Shelves.bytes(body);
            Zip packed = new Zip().packed("f", PlainPacker.packed(row), row);
            size("end, packed " + n, 2, packed.done(), n, packed.entry(0) + 24);
        }
    }

    private static void size(String what, int kind, byte[] tape, int n, int place) {
        if (n <= 400) {
            Shelves.sound(DUE, what, kind, tape, "f=" + "b".repeat(n) + " ");
        } else {
            Shelves.fault(DUE, what, kind, tape, 7, place);
        }
    }

    /** "and is a DIRECTORY, or a FILE": only files have bytes. */
    private static void directoriesHaveNoBytes() {
        ArchiveShelf shelf = new ArchiveShelf();
        Shelves.type(shelf, "dd");
        DUE.refused("directory with a byte", shelf, IllegalArgumentException.class, () -> shelf.come(1, true));
        DUE.same("with none", shelf.come(2, true), 1);
        DUE.same("it has none", shelf.name(0, -2), 0);
        Shelves.file(shelf, "dd", "1");
        DUE.same("the file of that name has", shelf.name(0, -2), 1);
        Shelves.directory(shelf, "dd");
        DUE.same("and the directory has none again", shelf.name(0, -2), 0);
    }

    /** "each has a NAME, no two the same". */
    private static void noTwoTheSame() {
        ArchiveShelf shelf = new ArchiveShelf();
        for (String name : new String[] {"ab", "aB", "abc", "a", "ab", "a.b", "ab"}) {
            Shelves.file(shelf, name, "");
        }
        DUE.same("names", Shelves.members(shelf), "aB= abc= a= a.b= ab= ");
    }
}
