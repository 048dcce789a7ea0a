/**
 * Archives of three kinds as a tree of files. What each call has to answer stands, promise by
 * promise, in ../shared/DOC.md; the words in capitals there are the words of the comments here.
 */
public final class ArchiveShelf {
    public static final int NONE = -1;

    private static final int MOST_MEMBERS = 16;
    private static final int MOST_NAME = 90;
    private static final int MOST_BODY = 400;
    private static final int MOST_BUFFER = 512;
    private static final int MOST_TAPE = 20000;
    // The longest name that a head can put together: 155 bytes, a slash, 100 bytes. A name that is
    // told longer still is cut here; it stays too long for a NAME.
    private static final int MOST_PATH = 256;

    private static final int SLASH = 47;
    private static final int DOT = 46;

    private static final int FAULT_LACKS = 1;
    private static final int FAULT_NOT_ZERO = 2;
    private static final int FAULT_MARK = 3;
    private static final int FAULT_CHECK = 4;
    private static final int FAULT_SECOND_MARK = 5;
    private static final int FAULT_FIELD = 6;
    private static final int FAULT_SIZE = 7;
    private static final int FAULT_SORT = 8;
    private static final int FAULT_NAME = 10;
    private static final int FAULT_IN_THE_WAY = 11;
    private static final int FAULT_OUTSIDE = 12;
    private static final int FAULT_DIFFERS = 13;
    private static final int FAULT_TOO_FEW = 14;
    private static final int FAULT_BIT_LACKS = 20;
    private static final int FAULT_BLOCK_SORT = 21;
    private static final int FAULT_STORED_LENGTH = 22;
    private static final int FAULT_TOO_MANY = 23;
    private static final int FAULT_CODES = 24;
    private static final int FAULT_NO_CODE = 25;
    private static final int FAULT_TOO_FAR = 26;
    private static final int FAULT_LEFT_OVER = 27;

    private final Bytes buffer;
    private final Bytes tape;
    private final Bytes path;
    private final Bytes body;
    private final Flaw flaw;
    private final Packer packer;
    private final Unpacker unpacker;
    private final Archive[] archives;
    private Shelf shelf;
    // Archives are read onto the spare shelf, so that a FAULT leaves the other one as it was.
    private Shelf spare;

    public ArchiveShelf() {
        buffer = new Bytes(MOST_BUFFER);
        tape = new Bytes(MOST_TAPE);
        path = new Bytes(MOST_PATH);
        body = new Bytes(MOST_BUFFER);
        flaw = new Flaw();
        packer = new Packer(tape);
        unpacker = new Unpacker(tape, body, flaw);
        archives = new Archive[] {
            new BlockArchive(tape, path, flaw),
            new DigitArchive(tape, path, flaw),
            new EndArchive(tape, path, flaw, packer, unpacker, body)
        };
        shelf = new Shelf();
        spare = new Shelf();
    }

    public int type(long bytes, int n) throws IllegalArgumentException, UnsupportedOperationException {
        if (n < 1 || n > 8) {
            throw new IllegalArgumentException("n is not 1 .. 8");
        }
        if (buffer.size() + n > MOST_BUFFER) {
            throw new UnsupportedOperationException("more than 512 bytes");
        }
        buffer.addBig(bytes, n);
        return buffer.size();
    }

    public void keep(int n) throws IllegalArgumentException {
        if (n < 0 || n > buffer.size()) {
            throw new IllegalArgumentException("the buffer has not so many bytes");
        }
        buffer.cutTo(n);
    }

    public int typed(int i) throws IndexOutOfBoundsException {
        if (!buffer.has(i)) {
            throw new IndexOutOfBoundsException("no such byte of the buffer");
        }
        return buffer.get(i);
    }

    public int come(int n, boolean directory)
            throws IllegalArgumentException, IllegalStateException, UnsupportedOperationException {
        if (n < 0 || n > buffer.size()) {
            throw new IllegalArgumentException("the buffer has not so many bytes");
        }
        path.cutTo(0);
        path.addRow(buffer, 0, n);
        if (!isName(path)) {
            throw new IllegalArgumentException("no name");
        }
        if (buffer.size() - n > (directory ? 0 : MOST_BODY)) {
            throw new IllegalArgumentException("too many bytes");
        }
        if (shelf.isInTheWay(path, directory)) {
            throw new IllegalStateException("in the way");
        }
        if (!shelf.hasRoomFor(path)) {
            throw new UnsupportedOperationException("more than 16 members");
        }
        shelf.take(path, directory, buffer, n, buffer.size());
        buffer.cutTo(0);
        return shelf.size();
    }

    public int go(int k) throws IndexOutOfBoundsException {
        if (shelf.member(k) == null) {
            throw new IndexOutOfBoundsException("no such member");
        }
        shelf.drop(k);
        return shelf.size();
    }

    public int name(int k, int i) throws IndexOutOfBoundsException {
        Member member = shelf.member(k);
        if (member == null) {
            throw new IndexOutOfBoundsException("no such member");
        }
        switch (i) {
            case NONE:
                return member.title.size();
            case -2:
                return member.body.size();
            case -3:
                return member.directory ? 1 : 0;
            default:
                if (!member.title.has(i)) {
                    throw new IndexOutOfBoundsException("no such byte of the name");
                }
                return member.title.get(i);
        }
    }

    public int byteAt(int k, int i) throws IndexOutOfBoundsException {
        Member member = shelf.member(k);
        if (member == null || !member.body.has(i)) {
            throw new IndexOutOfBoundsException("no such member or byte");
        }
        return member.body.get(i);
    }

    public int kind() {
        if (buffer.size() == 0) {
            return 1;
        }
        Member member = shelf.member(shelf.find(buffer));
        if (member != null) {
            return member.directory ? 1 : 2;
        }
        return shelf.hasUnder(buffer) ? 1 : 0;
    }

    public int child(int k, int i) throws IndexOutOfBoundsException {
        if (k == NONE) {
            if (i != NONE) {
                throw new IndexOutOfBoundsException("all children have no byte");
            }
            return shelf.children(buffer);
        }
        Member first = shelf.member(shelf.firstOfChild(buffer, k));
        if (first == null) {
            throw new IndexOutOfBoundsException("no such child");
        }
        int begin = partBehind(buffer);
        int length = partLength(first.title, begin);
        if (i == NONE) {
            return length;
        }
        if (i < 0 || i >= length) {
            throw new IndexOutOfBoundsException("no such byte of the child");
        }
        return first.title.get(begin + i);
    }

    public int write(int kind, boolean packed) throws IllegalArgumentException {
        Archive archive = archiveOf(kind);
        if (archive == null) {
            throw new IllegalArgumentException("no such kind");
        }
        tape.cutTo(0);
        archive.layOut(shelf, packed);
        return tape.size();
    }

    public int read(int kind) throws IllegalArgumentException {
        Archive archive = archiveOf(kind);
        if (archive == null) {
            throw new IllegalArgumentException("no such kind");
        }
        flaw.clear();
        spare.clear();
        if (!archive.takeIn(spare)) {
            return NONE;
        }
        Shelf old = shelf;
        shelf = spare;
        spare = old;
        return shelf.size();
    }

    public int fault(int what) throws IndexOutOfBoundsException {
        switch (what) {
            case 0:
                return flaw.number();
            case 1:
                return flaw.place();
            default:
                throw new IndexOutOfBoundsException("no such what");
        }
    }

    public int pack() {
        tape.cutTo(0);
        packer.addPacked(buffer);
        return tape.size();
    }

    public int unpack() {
        flaw.clear();
        if (!unpacker.open(0, tape.size(), MOST_BUFFER)) {
            return NONE;
        }
        buffer.cutTo(0);
        buffer.addRow(body, 0, body.size());
        return buffer.size();
    }

    public int check() {
        return checkOf(buffer);
    }

    public int feed(int a, int b, int c, int d, int e) throws UnsupportedOperationException {
        if (tape.size() + 20 > MOST_TAPE) {
            throw new UnsupportedOperationException("more than 20000 bytes");
        }
        tape.addBig(a, 4);
        tape.addBig(b, 4);
        tape.addBig(c, 4);
        tape.addBig(d, 4);
        tape.addBig(e, 4);
        return tape.size();
    }

    public void end(int n) throws IllegalArgumentException {
        if (n < 0 || n > tape.size()) {
            throw new IllegalArgumentException("the tape has not so many bytes");
        }
        tape.cutTo(n);
    }

    public int poke(int i, int v) throws IndexOutOfBoundsException, IllegalArgumentException {
        if (!tape.has(i)) {
            throw new IndexOutOfBoundsException("no such byte of the tape");
        }
        if (v < 0 || v > 255) {
            throw new IllegalArgumentException("no byte");
        }
        int old = tape.get(i);
        tape.set(i, v);
        return old;
    }

    public long at(int i, int n) throws IllegalArgumentException, IndexOutOfBoundsException {
        if (n < 1 || n > 8) {
            throw new IllegalArgumentException("n is not 1 .. 8");
        }
        if (i < 0 || i > tape.size() - n) {
            throw new IndexOutOfBoundsException("no such bytes of the tape");
        }
        long number = 0;
        for (int j = 0; j < n; j++) {
            number = number << 8 | tape.get(i + j);
        }
        return number;
    }

    public int count(int what) throws IndexOutOfBoundsException {
        switch (what) {
            case 0:
                return shelf.size();
            case 1:
                return buffer.size();
            case 2:
                return tape.size();
            default:
                throw new IndexOutOfBoundsException("no such what");
        }
    }

    private Archive archiveOf(int number) {
        return number >= 0 && number < archives.length ? archives[number] : null;
    }

    private static boolean isName(Bytes row) {
        if (row.size() < 1 || row.size() > MOST_NAME) {
            return false;
        }
        int part = 0;
        for (int i = 0; i <= row.size(); i++) {
            // The end closes the last part as a slash would.
            int c = i < row.size() ? row.get(i) : SLASH;
            if (c < 33 || c > 126) {
                return false;
            }
            if (c == SLASH) {
                if (!isPart(row, part, i - part)) {
                    return false;
                }
                part = i + 1;
            }
        }
        return true;
    }

    private static boolean isPart(Bytes row, int begin, int length) {
        if (length == 0) {
            return false;
        }
        boolean dots = length <= 2 && row.get(begin) == DOT && row.get(begin + length - 1) == DOT;
        return !dots;
    }

    /** Where, in a name that lies under the path, the part directly behind the path begins. */
    private static int partBehind(Bytes path) {
        return path.size() == 0 ? 0 : path.size() + 1;
    }

    private static int partLength(Bytes title, int begin) {
        for (int i = begin; i < title.size(); i++) {
            if (title.get(i) == SLASH) {
                return i - begin;
            }
        }
        return title.size() - begin;
    }

    private static int checkOf(Bytes row) {
        int c = -1;
        for (int i = 0; i < row.size(); i++) {
            c ^= row.get(i);
            for (int turn = 0; turn < 8; turn++) {
                c = (c & 1) == 1 ? c >>> 1 ^ 0xEDB88320 : c >>> 1;
            }
        }
        return ~c;
    }

    private static int roundedUp(int n, int step) {
        int over = step < 1 ? 0 : n % step;
        return over == 0 ? n : n - over + step;
    }

    private static int lengthBits(int step) {
        return step < 8 || step == 28 ? 0 : (step - 4) >> 2;
    }

    /** The least length of symbol 257 + step. */
    private static int lengthBase(int step) {
        if (step == 28) {
            return 258;
        }
        return step < 8 ? 3 + step : ((4 + (step & 3)) << lengthBits(step)) + 3;
    }

    private static int distanceBits(int symbol) {
        return symbol < 4 ? 0 : (symbol - 2) >> 1;
    }

    private static int distanceBase(int symbol) {
        return symbol < 4 ? 1 + symbol : ((2 + (symbol & 1)) << distanceBits(symbol)) + 1;
    }

    /** A row of bytes with a most; every index is tested here, so that no other place has to. */
    private static final class Bytes {
        private final int[] cells;
        private int size;

        Bytes(int most) {
            cells = new int[most < 0 ? 0 : most];
            size = 0;
        }

        int size() {
            return size;
        }

        boolean has(int i) {
            return i >= 0 && i < size;
        }

        int get(int i) {
            return i >= 0 && i < size && i < cells.length ? cells[i] : 0;
        }

        void set(int i, int v) {
            if (i >= 0 && i < size && i < cells.length) {
                cells[i] = v & 255;
            }
        }

        void cutTo(int n) {
            if (n >= 0 && n < size) {
                size = n;
            }
        }

        void add(int v) {
            if (size >= 0 && size < cells.length) {
                cells[size] = v & 255;
                size++;
            }
        }

        void addRow(Bytes from, int begin, int behind) {
            for (int i = begin; i < behind; i++) {
                add(from.get(i));
            }
        }

        void addText(String text) {
            for (int i = 0; i < text.length(); i++) {
                add(text.charAt(i));
            }
        }

        void addMark(int[] mark) {
            for (int i = 0; i < mark.length; i++) {
                add(mark[i]);
            }
        }

        void addZeros(int n) {
            for (int i = 0; i < n; i++) {
                add(0);
            }
        }

        void addBig(long number, int n) {
            for (int i = n - 1; i >= 0; i--) {
                add((int) (number >>> 8 * i));
            }
        }

        void addLittle(long number, int n) {
            for (int i = 0; i < n; i++) {
                add((int) (number >>> 8 * i));
            }
        }

        long little(int place, int n) {
            long number = 0;
            for (int i = n - 1; i >= 0; i--) {
                number = number << 8 | get(place + i);
            }
            return number;
        }

        /** Whether this row is the other one up to there. */
        boolean beginsWith(Bytes other) {
            if (size < other.size) {
                return false;
            }
            for (int i = 0; i < other.size; i++) {
                if (get(i) != other.get(i)) {
                    return false;
                }
            }
            return true;
        }

        boolean isText(String text) {
            if (size != text.length()) {
                return false;
            }
            for (int i = 0; i < text.length(); i++) {
                if (get(i) != text.charAt(i)) {
                    return false;
                }
            }
            return true;
        }

        /** As a NAME: LIES UNDER the other one; the root is told by no byte. */
        boolean liesUnder(Bytes other) {
            if (other.size == 0) {
                return true;
            }
            return size > other.size + 1 && get(other.size) == SLASH && beginsWith(other);
        }
    }

    private static final class Member {
        private final Bytes title = new Bytes(MOST_NAME);
        private final Bytes body = new Bytes(MOST_BODY);
        private boolean directory;
    }

    private static final class Shelf {
        private final Member[] members;
        private int size;

        Shelf() {
            members = new Member[MOST_MEMBERS];
            for (int i = 0; i < members.length; i++) {
                members[i] = new Member();
            }
            size = 0;
        }

        int size() {
            return size;
        }

        void clear() {
            size = 0;
        }

        Member member(int k) {
            return k >= 0 && k < size && k < members.length ? members[k] : null;
        }

        int find(Bytes title) {
            for (int k = 0; k < size; k++) {
                Member member = member(k);
                if (member != null && member.title.size() == title.size()
                        && member.title.beginsWith(title)) {
                    return k;
                }
            }
            return NONE;
        }

        boolean hasUnder(Bytes title) {
            for (int k = 0; k < size; k++) {
                Member member = member(k);
                if (member != null && member.title.liesUnder(title)) {
                    return true;
                }
            }
            return false;
        }

        // The member that goes needs no care here: no name lies under itself.
        boolean isInTheWay(Bytes title, boolean directory) {
            for (int k = 0; k < size; k++) {
                Member member = member(k);
                if (member == null) {
                    continue;
                }
                if (!directory && member.title.liesUnder(title)) {
                    return true;
                }
                if (!member.directory && title.liesUnder(member.title)) {
                    return true;
                }
            }
            return false;
        }

        boolean hasRoomFor(Bytes title) {
            return size < MOST_MEMBERS || find(title) != NONE;
        }

        void drop(int k) {
            Member gone = member(k);
            if (gone == null) {
                return;
            }
            for (int i = k; i + 1 < size && i + 1 < members.length; i++) {
                members[i] = members[i + 1];
            }
            size--;
            // Its object waits behind the others for the next member.
            if (size >= 0 && size < members.length) {
                members[size] = gone;
            }
        }

        /** A member COMES; its bytes are those of the row from begin on. */
        void take(Bytes title, boolean directory, Bytes row, int begin, int behind) {
            drop(find(title));
            if (size < 0 || size >= members.length) {
                return;
            }
            size++;
            Member member = member(size - 1);
            if (member != null) {
                member.title.cutTo(0);
                member.title.addRow(title, 0, title.size());
                member.body.cutTo(0);
                member.body.addRow(row, begin, behind);
                member.directory = directory;
            }
        }

        int children(Bytes path) {
            int found = 0;
            for (int k = 0; k < size; k++) {
                if (isFirstOfChild(path, k)) {
                    found++;
                }
            }
            return found;
        }

        /** The first member that lies in child number wanted of the path, or is it. */
        int firstOfChild(Bytes path, int wanted) {
            int found = 0;
            for (int k = 0; k < size; k++) {
                if (isFirstOfChild(path, k)) {
                    if (found == wanted) {
                        return k;
                    }
                    found++;
                }
            }
            return NONE;
        }

        private boolean isFirstOfChild(Bytes path, int k) {
            Member member = member(k);
            if (member == null || !member.title.liesUnder(path)) {
                return false;
            }
            for (int i = 0; i < k; i++) {
                Member before = member(i);
                if (before != null && before.title.liesUnder(path)
                        && isSamePart(before.title, member.title, partBehind(path))) {
                    return false;
                }
            }
            return true;
        }

        private static boolean isSamePart(Bytes one, Bytes other, int begin) {
            int length = partLength(one, begin);
            if (partLength(other, begin) != length) {
                return false;
            }
            for (int i = begin; i < begin + length; i++) {
                if (one.get(i) != other.get(i)) {
                    return false;
                }
            }
            return true;
        }
    }

    /** The latest FAULT. */
    private static final class Flaw {
        private int number;
        private int place;

        Flaw() {
            number = 0;
            place = NONE;
        }

        int number() {
            return number;
        }

        int place() {
            return place;
        }

        void clear() {
            number = 0;
            place = NONE;
        }

        /** Answers false, so that what finds a FAULT can tell it and end in one line. */
        boolean tell(int faultNumber, int faultPlace) {
            number = faultNumber;
            place = faultPlace;
            return false;
        }
    }

    /** A kind of archive. What answers false has told a FAULT. */
    private abstract static class Archive {
        final Bytes tape;
        final Bytes path;
        final Flaw flaw;

        Archive(Bytes tape, Bytes path, Flaw flaw) {
            this.tape = tape;
            this.path = path;
            this.flaw = flaw;
        }

        abstract boolean takeIn(Shelf shelf);

        abstract void layOut(Shelf shelf, boolean packed);

        boolean reaches(int behind) {
            return behind <= tape.size() || flaw.tell(FAULT_LACKS, tape.size());
        }

        boolean isMarked(int place, int[] mark, int faultNumber) {
            for (int i = 0; i < mark.length; i++) {
                if (tape.get(place + i) != mark[i]) {
                    return flaw.tell(faultNumber, place + i);
                }
            }
            return true;
        }

        boolean isZeroFrom(int place) {
            for (int i = place; i < tape.size(); i++) {
                if (tape.get(i) != 0) {
                    return flaw.tell(FAULT_NOT_ZERO, i);
                }
            }
            return true;
        }

        boolean isNamed(int place) {
            return isName(path) || flaw.tell(FAULT_NAME, place);
        }

        /** The member that the path names COMES, with the row's bytes; place is the FAULT's. */
        boolean arrives(Shelf shelf, boolean directory, Bytes row, int begin, int behind, int place) {
            if (shelf.isInTheWay(path, directory) || !shelf.hasRoomFor(path)) {
                return flaw.tell(FAULT_IN_THE_WAY, place);
            }
            shelf.take(path, directory, row, begin, behind);
            return true;
        }

        void addTitle(Member member, boolean slashed) {
            tape.addRow(member.title, 0, member.title.size());
            if (slashed && member.directory) {
                tape.add(SLASH);
            }
        }
    }

    /** BLOCKS. */
    private static final class BlockArchive extends Archive {
        private static final int BLOCK = 512;
        private static final int SIZE = 124;
        private static final int SUM = 148;
        private static final int SORT = 156;
        private static final int MARK = 257;
        private static final int FRONT = 345;
        private static final int SORT_FILE = 48;
        private static final int SORT_DIRECTORY = 53;
        private static final int[] MARK_BYTES = {117, 115, 116, 97, 114, 0, 48, 48};

        BlockArchive(Bytes tape, Bytes path, Flaw flaw) {
            super(tape, path, flaw);
        }

        boolean takeIn(Shelf shelf) {
            int p = 0;
            for (int heads = 0; heads < MOST_TAPE && p + BLOCK <= tape.size(); heads++) {
                if (isEmptyBlock(p)) {
                    return reaches(p + 2 * BLOCK) && isZeroFrom(p);
                }
                if (!isHead(p)) {
                    return false;
                }
                boolean directory = tape.get(p + SORT) == SORT_DIRECTORY;
                int begin = p + BLOCK;
                int size = (int) octal(p + SIZE, 11);
                int behind = begin + roundedUp(size, BLOCK);
                spell(p, directory);
                if (!isNamed(p) || !reaches(behind)
                        || !arrives(shelf, directory, tape, begin, begin + size, p)) {
                    return false;
                }
                p = behind;
            }
            return flaw.tell(FAULT_LACKS, tape.size());
        }

        private boolean isEmptyBlock(int p) {
            for (int i = 0; i < BLOCK; i++) {
                if (tape.get(p + i) != 0) {
                    return false;
                }
            }
            return true;
        }

        private boolean isHead(int p) {
            return isSummed(p)
                    && isMarked(p + MARK, MARK_BYTES, FAULT_SECOND_MARK)
                    && isOctal(p + 100, 8)
                    && isOctal(p + 108, 8)
                    && isOctal(p + 116, 8)
                    && isOctal(p + SIZE, 12)
                    && isOctal(p + 136, 12)
                    && isSorted(p);
        }

        private boolean isSummed(int p) {
            if (!areDigits(p + SUM, 6, FAULT_MARK)) {
                return false;
            }
            if (tape.get(p + SUM + 6) != 0) {
                return flaw.tell(FAULT_MARK, p + SUM + 6);
            }
            if (tape.get(p + SUM + 7) != 32) {
                return flaw.tell(FAULT_MARK, p + SUM + 7);
            }
            return octal(p + SUM, 6) == sumOf(p) || flaw.tell(FAULT_CHECK, p + SUM);
        }

        private boolean isSorted(int p) {
            int sort = tape.get(p + SORT);
            if (sort != SORT_FILE && sort != 0 && sort != SORT_DIRECTORY) {
                return flaw.tell(FAULT_SORT, p + SORT);
            }
            int most = sort == SORT_DIRECTORY ? 0 : MOST_BODY;
            return octal(p + SIZE, 11) <= most || flaw.tell(FAULT_SIZE, p + SIZE);
        }

        private boolean areDigits(int place, int n, int faultNumber) {
            for (int i = place; i < place + n; i++) {
                if (tape.get(i) < 48 || tape.get(i) > 55) {
                    return flaw.tell(faultNumber, i);
                }
            }
            return true;
        }

        private boolean isOctal(int place, int n) {
            if (!areDigits(place, n - 1, FAULT_FIELD)) {
                return false;
            }
            return tape.get(place + n - 1) == 0 || flaw.tell(FAULT_FIELD, place + n - 1);
        }

        private long octal(int place, int n) {
            long number = 0;
            for (int i = place; i < place + n; i++) {
                number = number << 3 | tape.get(i) & 7;
            }
            return number;
        }

        private int sumOf(int p) {
            int sum = 0;
            for (int i = 0; i < BLOCK; i++) {
                sum += i >= SUM && i < SUM + 8 ? 32 : tape.get(p + i);
            }
            return sum;
        }

        private void spell(int p, boolean directory) {
            path.cutTo(0);
            addToPath(p + FRONT, 155);
            if (path.size() > 0) {
                path.add(SLASH);
            }
            addToPath(p, 100);
            int last = path.size() - 1;
            if (directory && path.get(last) == SLASH) {
                path.cutTo(last);
            }
        }

        private void addToPath(int place, int most) {
            for (int i = place; i < place + most && tape.get(i) != 0; i++) {
                path.add(tape.get(i));
            }
        }

        void layOut(Shelf shelf, boolean packed) {
            for (int k = 0; k < shelf.size(); k++) {
                Member member = shelf.member(k);
                if (member != null) {
                    addHead(member);
                    int size = member.body.size();
                    tape.addRow(member.body, 0, size);
                    tape.addZeros(roundedUp(size, BLOCK) - size);
                }
            }
            tape.addZeros(2 * BLOCK);
        }

        private void addHead(Member member) {
            int p = tape.size();
            addTitle(member, true);
            tape.addZeros(p + 100 - tape.size());
            tape.addText(member.directory ? "0000755" : "0000644");
            tape.add(0);
            tape.addText("0000000");
            tape.add(0);
            tape.addText("0000000");
            tape.add(0);
            addOctal(member.body.size(), 11);
            tape.add(0);
            addOctal(0, 11);
            tape.add(0);
            tape.addText("000000");
            tape.add(0);
            tape.add(32);
            tape.add(member.directory ? SORT_DIRECTORY : SORT_FILE);
            tape.addZeros(p + MARK - tape.size());
            tape.addMark(MARK_BYTES);
            tape.addZeros(p + 329 - tape.size());
            tape.addText("0000000");
            tape.add(0);
            tape.addText("0000000");
            tape.addZeros(p + BLOCK - tape.size());
            setSum(p);
        }

        private void addOctal(int number, int n) {
            for (int i = n - 1; i >= 0; i--) {
                tape.add(48 + (number >>> 3 * i & 7));
            }
        }

        private void setSum(int p) {
            int sum = sumOf(p);
            for (int i = 0; i < 6; i++) {
                tape.set(p + SUM + i, 48 + (sum >>> 3 * (5 - i) & 7));
            }
        }
    }

    /** DIGITS. */
    private static final class DigitArchive extends Archive {
        private static final int HEAD = 110;
        private static final int NUMBERS = 13;
        private static final int MODE = 14;
        private static final int SIZE = 54;
        private static final int TITLE_LENGTH = 94;
        private static final int MODE_FILE = 0x81a4;
        private static final int MODE_DIRECTORY = 0x41ed;
        private static final String TRAILER = "TRAILER!!!";
        private static final int[] MARK_BYTES = {48, 55, 48, 55, 48, 49};

        DigitArchive(Bytes tape, Bytes path, Flaw flaw) {
            super(tape, path, flaw);
        }

        boolean takeIn(Shelf shelf) {
            int p = 0;
            for (int heads = 0; heads < MOST_TAPE && p + HEAD <= tape.size(); heads++) {
                if (!isHead(p) || !isSpelt(p)) {
                    return false;
                }
                int behindTitle = p + HEAD + path.size() + 1;
                if (path.isText(TRAILER)) {
                    return isSized(p, 0) && isZeroFrom(behindTitle);
                }
                if (!isMember(p)) {
                    return false;
                }
                int begin = roundedUp(behindTitle, 4);
                int size = (int) number(p + SIZE);
                int behind = roundedUp(begin + size, 4);
                if (!reaches(behind)
                        || !arrives(shelf, isDirectory(p), tape, begin, begin + size, p)) {
                    return false;
                }
                p = behind;
            }
            return flaw.tell(FAULT_LACKS, tape.size());
        }

        private boolean isHead(int p) {
            if (!isMarked(p, MARK_BYTES, FAULT_MARK)) {
                return false;
            }
            for (int i = p + MARK_BYTES.length; i < p + HEAD; i++) {
                if (digit(tape.get(i)) == NONE) {
                    return flaw.tell(FAULT_FIELD, i);
                }
            }
            return true;
        }

        private boolean isSpelt(int p) {
            long length = number(p + TITLE_LENGTH);
            if (length < 1 || length > 100) {
                return flaw.tell(FAULT_NAME, p + TITLE_LENGTH);
            }
            int last = p + HEAD + (int) length - 1;
            if (!reaches(last + 1)) {
                return false;
            }
            if (tape.get(last) != 0) {
                return flaw.tell(FAULT_NAME, last);
            }
            path.cutTo(0);
            path.addRow(tape, p + HEAD, last);
            return true;
        }

        private boolean isMember(int p) {
            int sort = sortOf(p);
            if (sort != sortBits(MODE_FILE) && sort != sortBits(MODE_DIRECTORY)) {
                return flaw.tell(FAULT_SORT, p + MODE);
            }
            if (number(p + 102) != 0) {
                return flaw.tell(FAULT_CHECK, p + 102);
            }
            return isSized(p, isDirectory(p) ? 0 : MOST_BODY) && isNamed(p + HEAD);
        }

        private boolean isSized(int p, int most) {
            return number(p + SIZE) <= most || flaw.tell(FAULT_SIZE, p + SIZE);
        }

        private boolean isDirectory(int p) {
            return sortOf(p) == sortBits(MODE_DIRECTORY);
        }

        private int sortOf(int p) {
            return sortBits(number(p + MODE));
        }

        private static int sortBits(long mode) {
            return (int) (mode >>> 12 & 15);
        }

        private long number(int place) {
            long number = 0;
            for (int i = place; i < place + 8; i++) {
                number = number << 4 | digit(tape.get(i)) & 15;
            }
            return number;
        }

        private static int digit(int c) {
            if (c >= 48 && c <= 57) {
                return c - 48;
            }
            if (c >= 97 && c <= 102) {
                return c - 87;
            }
            return c >= 65 && c <= 70 ? c - 55 : NONE;
        }

        void layOut(Shelf shelf, boolean packed) {
            for (int k = 0; k < shelf.size(); k++) {
                Member member = shelf.member(k);
                if (member != null) {
                    int size = member.body.size();
                    int mode = member.directory ? MODE_DIRECTORY : MODE_FILE;
                    addHead(k + 1, mode, size, member.title.size() + 1);
                    addTitle(member, false);
                    tape.add(0);
                    addRest();
                    tape.addRow(member.body, 0, size);
                    addRest();
                }
            }
            addHead(0, 0, 0, TRAILER.length() + 1);
            tape.addText(TRAILER);
            tape.add(0);
            addRest();
        }

        private void addHead(int memberNumber, int mode, int size, int titleLength) {
            tape.addMark(MARK_BYTES);
            for (int i = 0; i < NUMBERS; i++) {
                switch (MARK_BYTES.length + 8 * i) {
                    case 6:
                        addNumber(memberNumber);
                        break;
                    case MODE:
                        addNumber(mode);
                        break;
                    case 22:
                        addNumber(1);
                        break;
                    case SIZE:
                        addNumber(size);
                        break;
                    case TITLE_LENGTH:
                        addNumber(titleLength);
                        break;
                    default:
                        addNumber(0);
                        break;
                }
            }
        }

        private void addNumber(int number) {
            for (int shift = 28; shift >= 0; shift -= 4) {
                int digit = number >>> shift & 15;
                tape.add(digit < 10 ? 48 + digit : 87 + digit);
            }
        }

        private void addRest() {
            tape.addZeros(roundedUp(tape.size(), 4) - tape.size());
        }
    }

    /** DIRECTORY AT THE END. */
    private static final class EndArchive extends Archive {
        private static final int CLOSING = 22;
        private static final int ENTRY = 46;
        private static final int LOCAL = 30;
        private static final int WAY_PLAIN = 0;
        private static final int WAY_PACKED = 8;
        private static final int DATE = 33;
        private static final int VERSION = 20;
        private static final int[] CLOSING_MARK = {80, 75, 5, 6};
        private static final int[] ENTRY_MARK = {80, 75, 1, 2};
        private static final int[] LOCAL_MARK = {80, 75, 3, 4};
        // Each of these stands in the entry two bytes further on.
        private static final int[] SAME_FIELDS = {6, 8, 14, 18, 22, 26};
        private static final int[] SAME_WIDTHS = {2, 2, 4, 4, 4, 2};

        private final Packer packer;
        private final Unpacker unpacker;
        private final Bytes body;
        private int closing;
        private int begin;
        // Of the entry that is being read:
        private int way;
        private int titleLength;
        private int behindEntry;
        private boolean directory;
        private int length;
        private int local;
        private int data;
        private int behindData;

        EndArchive(Bytes tape, Bytes path, Flaw flaw, Packer packer, Unpacker unpacker, Bytes body) {
            super(tape, path, flaw);
            this.packer = packer;
            this.unpacker = unpacker;
            this.body = body;
        }

        boolean takeIn(Shelf shelf) {
            if (!isClosing()) {
                return false;
            }
            int entries = (int) tape.little(closing + 10, 2);
            int q = begin;
            for (int i = 0; i < entries; i++) {
                if (!isEntry(q) || !isMember(q) || !isNamed(q + ENTRY) || !isLocal(q)) {
                    return false;
                }
                if (way == WAY_PLAIN) {
                    body.cutTo(0);
                    body.addRow(tape, data, behindData);
                } else if (!unpacker.open(data, behindData, length)) {
                    return false;
                }
                if (!isBody(q) || !arrives(shelf, directory, body, 0, body.size(), q)) {
                    return false;
                }
                q = behindEntry;
            }
            return q == closing || flaw.tell(FAULT_OUTSIDE, q);
        }

        private boolean isClosing() {
            closing = tape.size() - CLOSING;
            if (closing < 0) {
                return flaw.tell(FAULT_LACKS, tape.size());
            }
            if (!isMarked(closing, CLOSING_MARK, FAULT_MARK)
                    || !isZero(closing + 4, 2, FAULT_FIELD)
                    || !isZero(closing + 6, 2, FAULT_FIELD)) {
                return false;
            }
            if (tape.little(closing + 8, 2) != tape.little(closing + 10, 2)) {
                return flaw.tell(FAULT_FIELD, closing + 8);
            }
            if (tape.little(closing + 10, 2) > MOST_MEMBERS) {
                return flaw.tell(FAULT_IN_THE_WAY, closing + 10);
            }
            long from = tape.little(closing + 16, 4);
            if (tape.little(closing + 12, 4) + from != closing) {
                return flaw.tell(FAULT_OUTSIDE, closing + 12);
            }
            begin = (int) from;
            return isZero(closing + 20, 2, FAULT_FIELD);
        }

        private boolean isZero(int place, int n, int faultNumber) {
            return tape.little(place, n) == 0 || flaw.tell(faultNumber, place);
        }

        private boolean isEntry(int q) {
            if (q + ENTRY > closing) {
                return flaw.tell(FAULT_OUTSIDE, q);
            }
            if (!isMarked(q, ENTRY_MARK, FAULT_MARK)) {
                return false;
            }
            if (tape.little(q + 6, 2) > VERSION) {
                return flaw.tell(FAULT_FIELD, q + 6);
            }
            if (!isZero(q + 8, 2, FAULT_FIELD)) {
                return false;
            }
            way = (int) tape.little(q + 10, 2);
            if (way != WAY_PLAIN && way != WAY_PACKED) {
                return flaw.tell(FAULT_SORT, q + 10);
            }
            if (!isZero(q + 34, 2, FAULT_FIELD)) {
                return false;
            }
            titleLength = (int) tape.little(q + 28, 2);
            behindEntry = q + ENTRY + titleLength
                    + (int) tape.little(q + 30, 2) + (int) tape.little(q + 32, 2);
            return behindEntry <= closing || flaw.tell(FAULT_OUTSIDE, q);
        }

        private boolean isMember(int q) {
            int last = q + ENTRY + titleLength - 1;
            directory = titleLength > 0 && tape.get(last) == SLASH;
            path.cutTo(0);
            path.addRow(tape, q + ENTRY, directory ? last : last + 1);
            if (directory && !(isZero(q + 10, 2, FAULT_SIZE) && isZero(q + 16, 4, FAULT_SIZE)
                    && isZero(q + 20, 4, FAULT_SIZE) && isZero(q + 24, 4, FAULT_SIZE))) {
                return false;
            }
            long told = tape.little(q + 24, 4);
            if (told > MOST_BODY) {
                return flaw.tell(FAULT_SIZE, q + 24);
            }
            length = (int) told;
            return way != WAY_PLAIN || tape.little(q + 20, 4) == told || flaw.tell(FAULT_SIZE, q + 20);
        }

        private boolean isLocal(int q) {
            long place = tape.little(q + 42, 4);
            if (place + LOCAL > begin) {
                return flaw.tell(FAULT_OUTSIDE, q + 42);
            }
            local = (int) place;
            if (!isMarked(local, LOCAL_MARK, FAULT_MARK) || !isSame(q)) {
                return false;
            }
            data = local + LOCAL + titleLength + (int) tape.little(local + 28, 2);
            long behind = data + tape.little(q + 20, 4);
            if (behind > begin) {
                return flaw.tell(FAULT_OUTSIDE, q + 42);
            }
            behindData = (int) behind;
            return true;
        }

        private boolean isSame(int q) {
            for (int i = 0; i < SAME_FIELDS.length && i < SAME_WIDTHS.length; i++) {
                int field = SAME_FIELDS[i];
                int width = SAME_WIDTHS[i];
                if (tape.little(local + field, width) != tape.little(q + field + 2, width)) {
                    return flaw.tell(FAULT_DIFFERS, local + field);
                }
            }
            for (int i = 0; i < titleLength; i++) {
                if (tape.get(local + LOCAL + i) != tape.get(q + ENTRY + i)) {
                    return flaw.tell(FAULT_DIFFERS, local + LOCAL + i);
                }
            }
            return true;
        }

        private boolean isBody(int q) {
            if (body.size() != length) {
                return flaw.tell(FAULT_TOO_FEW, q + 24);
            }
            return checkOf(body) == (int) tape.little(q + 16, 4) || flaw.tell(FAULT_CHECK, q + 16);
        }

        void layOut(Shelf shelf, boolean packed) {
            for (int k = 0; k < shelf.size(); k++) {
                Member member = shelf.member(k);
                if (member != null) {
                    int head = tape.size();
                    boolean pressed = packed && member.body.size() > 0;
                    addLocal(member, pressed ? WAY_PACKED : WAY_PLAIN);
                    int from = tape.size();
                    if (pressed) {
                        packer.addPacked(member.body);
                    } else {
                        tape.addRow(member.body, 0, member.body.size());
                    }
                    setSize(head, tape.size() - from);
                }
            }
            addEntries(shelf);
        }

        private void addLocal(Member member, int chosenWay) {
            tape.addMark(LOCAL_MARK);
            tape.addLittle(VERSION, 2);
            tape.addLittle(0, 2);
            tape.addLittle(chosenWay, 2);
            tape.addLittle(0, 2);
            tape.addLittle(DATE, 2);
            tape.addLittle(checkOf(member.body), 4);
            tape.addLittle(0, 4);
            tape.addLittle(member.body.size(), 4);
            tape.addLittle(titleBytes(member), 2);
            tape.addLittle(0, 2);
            addTitle(member, true);
        }

        private static int titleBytes(Member member) {
            return member.title.size() + (member.directory ? 1 : 0);
        }

        // How many bytes they are when packed is known only behind them.
        private void setSize(int head, int size) {
            for (int i = 0; i < 4; i++) {
                tape.set(head + 18 + i, size >>> 8 * i);
            }
        }

        private void addEntries(Shelf shelf) {
            int from = tape.size();
            int head = 0;
            for (int k = 0; k < shelf.size(); k++) {
                Member member = shelf.member(k);
                if (member != null) {
                    tape.addMark(ENTRY_MARK);
                    tape.addLittle(VERSION, 2);
                    // From the version on to the name's length an entry is as the local head.
                    tape.addRow(tape, head + 4, head + 28);
                    tape.addZeros(12);
                    tape.addLittle(head, 4);
                    addTitle(member, true);
                    head += LOCAL + titleBytes(member) + (int) tape.little(head + 18, 4);
                }
            }
            int behind = tape.size();
            tape.addMark(CLOSING_MARK);
            tape.addZeros(4);
            tape.addLittle(shelf.size(), 2);
            tape.addLittle(shelf.size(), 2);
            tape.addLittle(behind - from, 4);
            tape.addLittle(from, 4);
            tape.addZeros(2);
        }
    }

    /** CODES for lengths. */
    private static final class Codes {
        private static final int LONGEST = 15;

        // How many codes there are of each length.
        private final int[] amounts;
        // Where, among the symbols, the next one of each length has its place.
        private final int[] nexts;
        // The symbols in the order of their codes.
        private final int[] symbols;
        private int total;
        private int longest;

        Codes(int most) {
            amounts = new int[LONGEST + 1];
            nexts = new int[LONGEST + 1];
            symbols = new int[most < 0 ? 0 : most];
            total = 0;
            longest = 0;
        }

        int longest() {
            return longest;
        }

        int amount(int length) {
            return length > 0 && length < amounts.length ? amounts[length] : 0;
        }

        int symbol(int index) {
            return index >= 0 && index < total && index < symbols.length ? symbols[index] : NONE;
        }

        /** Symbol 0 has the length at begin, and so on, n in all. */
        void order(int[] lengths, int begin, int n) {
            for (int length = 0; length < amounts.length; length++) {
                amounts[length] = 0;
            }
            int behind = Math.min(Math.min(begin + n, begin + symbols.length), lengths.length);
            for (int i = Math.max(begin, 0); i < behind; i++) {
                int length = lengths[i];
                if (length > 0 && length < amounts.length) {
                    amounts[length]++;
                }
            }
            placeLengths();
            for (int i = Math.max(begin, 0); i < behind; i++) {
                placeSymbol(i - begin, lengths[i]);
            }
        }

        private void placeLengths() {
            total = 0;
            longest = 0;
            for (int length = 1; length < amounts.length && length < nexts.length; length++) {
                nexts[length] = total;
                total += amounts[length];
                if (amounts[length] > 0) {
                    longest = length;
                }
            }
        }

        private void placeSymbol(int symbol, int length) {
            if (length > 0 && length < nexts.length) {
                int place = nexts[length];
                if (place >= 0 && place < symbols.length) {
                    symbols[place] = symbol;
                }
                nexts[length]++;
            }
        }

        boolean areComplete() {
            int sum = 0;
            for (int length = 1; length < amounts.length; length++) {
                sum += amounts[length] << LONGEST - length;
            }
            return sum == 1 << LONGEST;
        }

        boolean areNoneOrOneBit() {
            return total == 0 || total == 1 && longest == 1;
        }
    }

    /** Opens PACKED BYTES of the tape. What answers false or NONE has told a FAULT. */
    private static final class Unpacker {
        private static final int END_OF_BLOCK = 256;
        private static final int LAST_SYMBOL = 285;
        private static final int LAST_DISTANCE = 29;
        private static final int MOST_SYMBOLS = 288;
        private static final int MOST_DISTANCES = 32;
        private static final int[] LENGTHS_ORDER = {
            16, 17, 18, 0, 8, 7, 9, 6, 10, 5, 11, 4, 12, 3, 13, 2, 14, 1, 15
        };

        private final Bytes tape;
        private final Bytes body;
        private final Flaw flaw;
        private final Codes fixedSymbols;
        private final Codes fixedDistances;
        private final Codes symbols;
        private final Codes distances;
        private final Codes lengthCodes;
        private final int[] lengths;
        // Bits are counted from the tape's first one on.
        private int bit;
        private int behindBits;
        private int most;
        private int block;
        private int symbolLengths;
        private int allLengths;
        private int filled;

        Unpacker(Bytes tape, Bytes body, Flaw flaw) {
            this.tape = tape;
            this.body = body;
            this.flaw = flaw;
            fixedSymbols = new Codes(MOST_SYMBOLS);
            fixedDistances = new Codes(MOST_DISTANCES);
            symbols = new Codes(MOST_SYMBOLS);
            distances = new Codes(MOST_DISTANCES);
            lengthCodes = new Codes(LENGTHS_ORDER.length);
            lengths = new int[MOST_SYMBOLS + MOST_DISTANCES];
            orderFixed();
        }

        /** The bytes from begin on become the body, which may have so many bytes at most. */
        boolean open(int begin, int behind, int mostBytes) {
            bit = 8 * begin;
            behindBits = 8 * behind;
            most = mostBytes;
            body.cutTo(0);
            boolean last = false;
            for (int turn = 0; turn <= 8 * MOST_TAPE && !last; turn++) {
                block = bit >> 3;
                int lastBit = takeBits(1);
                int sort = takeBits(2);
                if (lastBit == NONE || sort == NONE) {
                    return false;
                }
                if (sort == 3) {
                    return flaw.tell(FAULT_BLOCK_SORT, block);
                }
                if (sort == 0 && !isStored()) {
                    return false;
                }
                if (sort == 1 && !areSymbols(fixedSymbols, fixedDistances)) {
                    return false;
                }
                if (sort == 2 && !(areLengthCodes() && areLengths() && areSymbols(symbols, distances))) {
                    return false;
                }
                last = lastBit == 1;
            }
            int left = bit + 7 >> 3;
            return left == behind || flaw.tell(FAULT_LEFT_OVER, left);
        }

        private int takeBits(int n) {
            if (behindBits - bit < n) {
                flaw.tell(FAULT_BIT_LACKS, behindBits >> 3);
                return NONE;
            }
            int number = 0;
            for (int i = 0; i < n; i++) {
                number |= (tape.get(bit >> 3) >> (bit & 7) & 1) << i;
                bit++;
            }
            return number;
        }

        private int takeSymbol(Codes codes, int place) {
            int code = 0;
            int first = 0;
            int index = 0;
            for (int length = 1; length <= Codes.LONGEST; length++) {
                if (bit >= behindBits) {
                    flaw.tell(FAULT_BIT_LACKS, behindBits >> 3);
                    return NONE;
                }
                code = code << 1 | tape.get(bit >> 3) >> (bit & 7) & 1;
                bit++;
                int amount = codes.amount(length);
                if (code - first < amount) {
                    return codes.symbol(index + code - first);
                }
                // Codes that may be in use without being complete are none at all or one of a
                // single bit: behind the longest one no bits lead to a code any more.
                if (length >= codes.longest()) {
                    break;
                }
                index += amount;
                first = first + amount << 1;
            }
            flaw.tell(FAULT_NO_CODE, place);
            return NONE;
        }

        private boolean isStored() {
            bit = bit + 7 & ~7;
            int length = takeBits(16);
            int turned = takeBits(16);
            if (length == NONE || turned == NONE) {
                return false;
            }
            if (turned != 65535 - length) {
                return flaw.tell(FAULT_STORED_LENGTH, block);
            }
            for (int i = 0; i < length; i++) {
                int place = bit >> 3;
                int v = takeBits(8);
                if (v == NONE) {
                    return false;
                }
                if (body.size() >= most) {
                    return flaw.tell(FAULT_TOO_MANY, place);
                }
                body.add(v);
            }
            return true;
        }

        private void orderFixed() {
            fillLengths(0, 144, 8);
            fillLengths(144, 256, 9);
            fillLengths(256, 280, 7);
            fillLengths(280, MOST_SYMBOLS, 8);
            fixedSymbols.order(lengths, 0, MOST_SYMBOLS);
            fillLengths(0, MOST_DISTANCES, 5);
            fixedDistances.order(lengths, 0, MOST_DISTANCES);
        }

        private void fillLengths(int from, int behind, int length) {
            for (int i = from; i < behind; i++) {
                if (i >= 0 && i < lengths.length) {
                    lengths[i] = length;
                }
            }
        }

        private boolean areLengthCodes() {
            int h = takeBits(5);
            if (h == NONE) {
                return false;
            }
            symbolLengths = h + 257;
            if (symbolLengths > LAST_SYMBOL + 1) {
                return flaw.tell(FAULT_CODES, block);
            }
            int k = takeBits(5);
            if (k == NONE) {
                return false;
            }
            if (k + 1 > LAST_DISTANCE + 1) {
                return flaw.tell(FAULT_CODES, block);
            }
            allLengths = symbolLengths + k + 1;
            int told = takeBits(4);
            if (told == NONE) {
                return false;
            }
            fillLengths(0, LENGTHS_ORDER.length, 0);
            for (int i = 0; i < told + 4 && i < LENGTHS_ORDER.length; i++) {
                int length = takeBits(3);
                if (length == NONE) {
                    return false;
                }
                fillLengths(LENGTHS_ORDER[i], LENGTHS_ORDER[i] + 1, length);
            }
            lengthCodes.order(lengths, 0, LENGTHS_ORDER.length);
            return lengthCodes.areComplete() || flaw.tell(FAULT_CODES, block);
        }

        private boolean areLengths() {
            filled = 0;
            for (int turn = 0; turn < lengths.length && filled < allLengths; turn++) {
                int before = filled;
                int symbol = takeSymbol(lengthCodes, block);
                if (symbol == NONE || !isRepeated(symbol)) {
                    return false;
                }
                if (!areSymbolLengths(before)) {
                    return flaw.tell(FAULT_CODES, block);
                }
            }
            distances.order(lengths, symbolLengths, allLengths - symbolLengths);
            return distances.areComplete() || distances.areNoneOrOneBit()
                    || flaw.tell(FAULT_CODES, block);
        }

        private boolean isRepeated(int symbol) {
            if (symbol == 16 && filled == 0) {
                return flaw.tell(FAULT_CODES, block);
            }
            int length = symbol < 16 ? symbol : symbol == 16 ? lengthAt(filled - 1) : 0;
            int bits = symbol < 16 ? 0 : symbol == 16 ? 2 : symbol == 17 ? 3 : 7;
            int least = symbol < 16 ? 1 : symbol == 18 ? 11 : 3;
            int more = takeBits(bits);
            if (more == NONE) {
                return false;
            }
            int behind = filled + least + more;
            if (behind > allLengths) {
                return flaw.tell(FAULT_CODES, block);
            }
            fillLengths(filled, behind, length);
            filled = behind;
            return true;
        }

        private int lengthAt(int i) {
            return i >= 0 && i < lengths.length ? lengths[i] : 0;
        }

        // A FAULT is told when all that it is told by has been taken: of symbols that is so before
        // the lengths of distances are there.
        private boolean areSymbolLengths(int before) {
            if (before <= END_OF_BLOCK && filled > END_OF_BLOCK && lengthAt(END_OF_BLOCK) == 0) {
                return false;
            }
            if (before >= symbolLengths || filled < symbolLengths) {
                return true;
            }
            symbols.order(lengths, 0, symbolLengths);
            return symbols.areComplete();
        }

        private boolean areSymbols(Codes chosenSymbols, Codes chosenDistances) {
            for (int turn = 0; turn <= 8 * MOST_TAPE; turn++) {
                int place = bit >> 3;
                int symbol = takeSymbol(chosenSymbols, place);
                if (symbol == NONE) {
                    return false;
                }
                if (symbol == END_OF_BLOCK) {
                    return true;
                }
                if (symbol > LAST_SYMBOL) {
                    return flaw.tell(FAULT_NO_CODE, place);
                }
                if (symbol > END_OF_BLOCK) {
                    if (!isCopied(symbol - END_OF_BLOCK - 1, chosenDistances, place)) {
                        return false;
                    }
                } else if (body.size() >= most) {
                    return flaw.tell(FAULT_TOO_MANY, place);
                } else {
                    body.add(symbol);
                }
            }
            return false;
        }

        private boolean isCopied(int step, Codes chosenDistances, int place) {
            int moreLength = takeBits(lengthBits(step));
            if (moreLength == NONE) {
                return false;
            }
            int symbol = takeSymbol(chosenDistances, place);
            if (symbol == NONE) {
                return false;
            }
            if (symbol > LAST_DISTANCE) {
                return flaw.tell(FAULT_NO_CODE, place);
            }
            int moreDistance = takeBits(distanceBits(symbol));
            if (moreDistance == NONE) {
                return false;
            }
            int length = lengthBase(step) + moreLength;
            int distance = distanceBase(symbol) + moreDistance;
            if (distance > body.size()) {
                return flaw.tell(FAULT_TOO_FAR, place);
            }
            if (body.size() + length > most) {
                return flaw.tell(FAULT_TOO_MANY, place);
            }
            for (int i = 0; i < length; i++) {
                body.add(body.get(body.size() - distance));
            }
            return true;
        }
    }

    /** Adds rows to the tape, PACKED. */
    private static final class Packer {
        private static final int LEAST = 3;
        private static final int MOST = 258;

        private final Bytes tape;
        private int held;
        private int heldBits;
        private int distance;

        Packer(Bytes tape) {
            this.tape = tape;
        }

        void addPacked(Bytes row) {
            held = 0;
            heldBits = 0;
            addBits(1, 1);
            addBits(1, 2);
            int i = 0;
            while (i < row.size()) {
                int length = longestBefore(row, i);
                if (length >= LEAST) {
                    int step = lengthStep(length);
                    addSymbol(257 + step);
                    addBits(length - lengthBase(step), lengthBits(step));
                    int far = distanceSymbol();
                    addCode(far, 5);
                    addBits(distance - distanceBase(far), distanceBits(far));
                    i += length;
                } else {
                    addSymbol(row.get(i));
                    i++;
                }
            }
            addSymbol(256);
            if (heldBits > 0) {
                tape.add(held);
            }
        }

        /** The length of the longest row that begins before, too; its distance is kept. */
        private int longestBefore(Bytes row, int i) {
            int most = Math.min(MOST, row.size() - i);
            int longest = 0;
            for (int from = i - 1; from >= 0 && longest < most; from--) {
                int length = 0;
                while (length < most && row.get(from + length) == row.get(i + length)) {
                    length++;
                }
                if (length > longest) {
                    longest = length;
                    distance = i - from;
                }
            }
            return longest;
        }

        private int lengthStep(int length) {
            int step = 28;
            while (step > 0 && lengthBase(step) > length) {
                step--;
            }
            return step;
        }

        private int distanceSymbol() {
            int symbol = 29;
            while (symbol > 0 && distanceBase(symbol) > distance) {
                symbol--;
            }
            return symbol;
        }

        private void addSymbol(int symbol) {
            if (symbol < 144) {
                addCode(48 + symbol, 8);
            } else if (symbol < 256) {
                addCode(400 + symbol - 144, 9);
            } else if (symbol < 280) {
                addCode(symbol - 256, 7);
            } else {
                addCode(192 + symbol - 280, 8);
            }
        }

        private void addCode(int code, int n) {
            for (int i = n - 1; i >= 0; i--) {
                addBits(code >> i, 1);
            }
        }

        private void addBits(int number, int n) {
            for (int i = 0; i < n; i++) {
                held |= (number >> i & 1) << heldBits;
                heldBits++;
                if (heldBits == 8) {
                    tape.add(held);
                    held = 0;
                    heldBits = 0;
                }
            }
        }
    }
}
