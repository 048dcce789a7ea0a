import java.nio.charset.StandardCharsets;
import java.util.ArrayList;
import java.util.HashMap;
import java.util.List;
import java.util.Map;
import java.util.zip.CRC32;

/**
 * Reads archives and packed bytes by the words of the document, with texts, maps and exceptions
 * where the program has rows and counters: what both get wrong would have to be misread twice.
 */
final class PlainReader {
    record Member(String name, boolean directory, byte[] body) {
    }

    static final class Fault extends Exception {
        private static final long serialVersionUID = 1;
        final int number;
        final int place;

        Fault(int number, int place) {
            this.number = number;
            this.place = place;
        }
    }

    private static final String OCTAL = "01234567";
    private static final String HEXADECIMAL = "0123456789abcdefABCDEF";

    private final String tape;
    private final List<Member> members = new ArrayList<>();

    private PlainReader(byte[] tape) {
        this.tape = new String(tape, StandardCharsets.ISO_8859_1);
    }

    static List<Member> read(int kind, byte[] tape) throws Fault {
        PlainReader reader = new PlainReader(tape);
        switch (kind) {
            case 0 -> reader.blocks();
            case 1 -> reader.digits();
            default -> reader.directoryAtTheEnd();
        }
        return reader.members;
    }

    static byte[] unpack(byte[] tape, int most) throws Fault {
        return new PlainReader(tape).unpacked(0, tape.length, most);
    }

    static boolean isName(String name) {
        if (name.length() > 90 || !name.matches("[!-~]+")) {
            return false;
        }
        for (String part : name.split("/", -1)) {
            if (part.isEmpty() || part.equals(".") || part.equals("..")) {
                return false;
            }
        }
        return true;
    }

    static boolean isInTheWay(List<Member> members, String name, boolean directory) {
        for (Member other : members) {
            boolean under = other.name.startsWith(name + "/");
            boolean over = name.startsWith(other.name + "/");
            if (!directory && under || !other.directory && over) {
                return true;
            }
        }
        return false;
    }

    /** Whether there was room; the member stands behind all others then. */
    static boolean comes(List<Member> members, Member member) {
        List<Member> rest = new ArrayList<>(members);
        rest.removeIf(other -> other.name.equals(member.name));
        if (rest.size() == 16) {
            return false;
        }
        members.clear();
        members.addAll(rest);
        members.add(member);
        return true;
    }

    private void arrives(Member member, int place) throws Fault {
        if (isInTheWay(members, member.name, member.directory) || !comes(members, member)) {
            throw new Fault(11, place);
        }
    }

    private static void must(boolean holds, int number, int place) throws Fault {
        if (!holds) {
            throw new Fault(number, place);
        }
    }

    private void thereAre(int behind) throws Fault {
        must(behind <= tape.length(), 1, tape.length());
    }

    /** In the form o is an octal digit, x a hexadecimal one, every other letter is itself. */
    private void isSo(int place, String form, int number) throws Fault {
        for (int i = 0; i < form.length(); i++) {
            char want = form.charAt(i);
            char got = tape.charAt(place + i);
            boolean so = want == 'o' ? OCTAL.indexOf(got) >= 0
                    : want == 'x' ? HEXADECIMAL.indexOf(got) >= 0 : want == got;
            must(so, number, place + i);
        }
    }

    private void allZero(int from) throws Fault {
        for (int i = from; i < tape.length(); i++) {
            must(tape.charAt(i) == 0, 2, i);
        }
    }

    private String upToZero(int place, int most) {
        String field = tape.substring(place, place + most);
        int zero = field.indexOf(0);
        return zero < 0 ? field : field.substring(0, zero);
    }

    private static byte[] bytes(String text) {
        return text.getBytes(StandardCharsets.ISO_8859_1);
    }

    private static int up(int place, int step) {
        return (place + step - 1) / step * step;
    }

    private void blocks() throws Fault {
        int p = 0;
        while (true) {
            thereAre(p + 512);
            if (tape.substring(p, p + 512).equals("\0".repeat(512))) {
                thereAre(p + 1024);
                allZero(p);
                return;
            }
            p = blockMember(p);
        }
    }

    private int blockMember(int p) throws Fault {
        isSo(p + 148, "oooooo\0 ", 3);
        String blank = tape.substring(p, p + 148) + " ".repeat(8) + tape.substring(p + 156, p + 512);
        must(Integer.parseInt(tape.substring(p + 148, p + 154), 8) == blank.chars().sum(), 4, p + 148);
        // No letter of the mark is one that stands for digits.
        isSo(p + 257, "ustar\00" + "00", 5);
        for (int field : new int[] {100, 108, 116}) {
            isSo(p + field, "o".repeat(7) + "\0", 6);
        }
        for (int field : new int[] {124, 136}) {
            isSo(p + field, "o".repeat(11) + "\0", 6);
        }
        char sort = tape.charAt(p + 156);
        must("\00".indexOf(sort) >= 0 || sort == '0' || sort == '5', 8, p + 156);
        boolean directory = sort == '5';
        long size = Long.parseLong(tape.substring(p + 124, p + 135), 8);
        must(size <= (directory ? 0 : 400), 7, p + 124);
        String front = upToZero(p + 345, 155);
        String name = (front.isEmpty() ? "" : front + "/") + upToZero(p, 100);
        if (directory && name.endsWith("/")) {
            name = name.substring(0, name.length() - 1);
        }
        must(isName(name), 10, p);
        int data = p + 512;
        int behind = data + up((int) size, 512);
        thereAre(behind);
        arrives(new Member(name, directory, bytes(tape.substring(data, data + (int) size))), p);
        return behind;
    }

    private long hexadecimal(int place) {
        return Long.parseLong(tape.substring(place, place + 8), 16);
    }

    private void digits() throws Fault {
        int p = 0;
        while (p >= 0) {
            p = digitMember(p);
        }
    }

    /** Where the next head is, or -1. */
    private int digitMember(int p) throws Fault {
        thereAre(p + 110);
        isSo(p, "070701", 3);
        isSo(p + 6, "x".repeat(104), 6);
        long length = hexadecimal(p + 94);
        must(length >= 1 && length <= 100, 10, p + 94);
        int last = p + 110 + (int) length - 1;
        thereAre(last + 1);
        must(tape.charAt(last) == 0, 10, last);
        String name = tape.substring(p + 110, last);
        long size = hexadecimal(p + 54);
        if (name.equals("TRAILER!!!")) {
            must(size == 0, 7, p + 54);
            allZero(last + 1);
            return -1;
        }
        long sort = hexadecimal(p + 14) / 4096 % 16;
        must(sort == 8 || sort == 4, 8, p + 14);
        must(hexadecimal(p + 102) == 0, 4, p + 102);
        must(size <= (sort == 4 ? 0 : 400), 7, p + 54);
        must(isName(name), 10, p + 110);
        int data = up(last + 1, 4);
        thereAre(data);
        int behind = up(data + (int) size, 4);
        thereAre(behind);
        arrives(new Member(name, sort == 4, bytes(tape.substring(data, data + (int) size))), p);
        return behind;
    }

    private long little(int place, int n) {
        long number = 0;
        long times = 1;
        for (int i = 0; i < n; i++) {
            number += tape.charAt(place + i) * times;
            times *= 256;
        }
        return number;
    }

    private void directoryAtTheEnd() throws Fault {
        int e = tape.length() - 22;
        must(e >= 0, 1, tape.length());
        isSo(e, "PK\5\6", 3);
        must(little(e + 4, 2) == 0, 6, e + 4);
        must(little(e + 6, 2) == 0, 6, e + 6);
        long entries = little(e + 10, 2);
        must(little(e + 8, 2) == entries, 6, e + 8);
        must(entries <= 16, 11, e + 10);
        must(little(e + 16, 4) + little(e + 12, 4) == e, 12, e + 12);
        must(little(e + 20, 2) == 0, 6, e + 20);
        int begin = (int) little(e + 16, 4);
        int q = begin;
        for (long i = 0; i < entries; i++) {
            q = entry(q, begin, e);
        }
        must(q == e, 12, q);
    }

    /** Where the next entry is. */
    private int entry(int q, int begin, int e) throws Fault {
        must(q + 46 <= e, 12, q);
        isSo(q, "PK\1\2", 3);
        must(little(q + 6, 2) <= 20, 6, q + 6);
        must(little(q + 8, 2) == 0, 6, q + 8);
        long way = little(q + 10, 2);
        must(way == 0 || way == 8, 8, q + 10);
        must(little(q + 34, 2) == 0, 6, q + 34);
        int n = (int) little(q + 28, 2);
        long behind = q + 46 + n + little(q + 30, 2) + little(q + 32, 2);
        must(behind <= e, 12, q);
        String written = tape.substring(q + 46, q + 46 + n);
        boolean directory = written.endsWith("/");
        String name = directory ? written.substring(0, n - 1) : written;
        if (directory) {
            must(way == 0, 7, q + 10);
            for (int field : new int[] {16, 20, 24}) {
                must(little(q + field, 4) == 0, 7, q + field);
            }
        }
        long length = little(q + 24, 4);
        must(length <= 400, 7, q + 24);
        long size = little(q + 20, 4);
        must(way == 8 || size == length, 7, q + 20);
        must(isName(name), 10, q + 46);
        long h = little(q + 42, 4);
        must(h + 30 <= begin, 12, q + 42);
        local((int) h, q, n);
        long data = h + 30 + n + little((int) h + 28, 2);
        must(data + size <= begin, 12, q + 42);
        byte[] body = way == 0 ? bytes(tape.substring((int) data, (int) (data + size)))
                : unpacked((int) data, (int) (data + size), (int) length);
        must(body.length == length, 14, q + 24);
        CRC32 check = new CRC32();
        check.update(body);
        must(check.getValue() == little(q + 16, 4), 4, q + 16);
        arrives(new Member(name, directory, body), q);
        return (int) behind;
    }

    private void local(int h, int q, int n) throws Fault {
        isSo(h, "PK\3\4", 3);
        int[] here = {6, 8, 14, 18, 22, 26};
        int[] there = {8, 10, 16, 20, 24, 28};
        int[] widths = {2, 2, 4, 4, 4, 2};
        for (int i = 0; i < here.length; i++) {
            must(little(h + here[i], widths[i]) == little(q + there[i], widths[i]), 13, h + here[i]);
        }
        for (int i = 0; i < n; i++) {
            must(tape.charAt(h + 30 + i) == tape.charAt(q + 46 + i), 13, h + 30 + i);
        }
    }

    // Part 3. The bits of the bytes from begin on, as a text of 0 and 1.
    private String bits;
    private int begin;
    private int taken;
    private int most;
    private StringBuilder out;

    private byte[] unpacked(int from, int behind, int atMost) throws Fault {
        StringBuilder row = new StringBuilder();
        for (int i = from; i < behind; i++) {
            for (int b = 0; b < 8; b++) {
                row.append(tape.charAt(i) >> b & 1);
            }
        }
        bits = row.toString();
        begin = from;
        taken = 0;
        most = atMost;
        out = new StringBuilder();
        boolean last = false;
        while (!last) {
            int block = place();
            last = bit() == '1';
            switch (number(2)) {
                case 0 -> stored(block);
                case 1 -> symbols(fixedSymbols(), fixedDistances());
                case 2 -> toldCodes(block);
                default -> throw new Fault(21, block);
            }
        }
        int left = begin + up(taken, 8) / 8;
        must(left == behind, 27, left);
        return bytes(out.toString());
    }

    private int place() {
        return begin + taken / 8;
    }

    private char bit() throws Fault {
        must(taken < bits.length(), 20, begin + bits.length() / 8);
        return bits.charAt(taken++);
    }

    private int number(int n) throws Fault {
        int number = 0;
        for (int i = 0; i < n; i++) {
            number += (bit() - '0') << i;
        }
        return number;
    }

    private void stored(int block) throws Fault {
        taken = up(taken, 8);
        int length = number(16);
        must(number(16) == 65535 - length, 22, block);
        for (int i = 0; i < length; i++) {
            int place = place();
            come((char) number(8), place);
        }
    }

    private void come(char v, int place) throws Fault {
        must(out.length() < most, 23, place);
        out.append(v);
    }

    /** The codes, as texts of bits, and their symbols. */
    private static Map<String, Integer> codes(int[] lengths) {
        Map<String, Integer> codes = new HashMap<>();
        int next = 0;
        for (int length = 1; length <= 15; length++) {
            next *= 2;
            for (int symbol = 0; symbol < lengths.length; symbol++) {
                if (lengths[symbol] == length) {
                    String code = Integer.toBinaryString(next);
                    codes.put("0".repeat(length - code.length()) + code, symbol);
                    next++;
                }
            }
        }
        return codes;
    }

    private static boolean areComplete(int[] lengths) {
        int sum = 0;
        for (int length : lengths) {
            sum += length == 0 ? 0 : 1 << 15 - length;
        }
        return sum == 1 << 15;
    }

    private static Map<String, Integer> fixedSymbols() {
        int[] lengths = new int[288];
        for (int i = 0; i < 288; i++) {
            lengths[i] = i <= 143 ? 8 : i <= 255 ? 9 : i <= 279 ? 7 : 8;
        }
        return codes(lengths);
    }

    private static Map<String, Integer> fixedDistances() {
        int[] lengths = new int[32];
        java.util.Arrays.fill(lengths, 5);
        return codes(lengths);
    }

    private int symbol(Map<String, Integer> codes, int place) throws Fault {
        String code = "";
        while (!codes.containsKey(code)) {
            code += bit();
            String begun = code;
            must(codes.keySet().stream().anyMatch(c -> c.startsWith(begun)), 25, place);
        }
        return codes.get(code);
    }

    private void toldCodes(int block) throws Fault {
        int h = number(5) + 257;
        must(h <= 286, 24, block);
        int k = number(5) + 1;
        must(k <= 30, 24, block);
        int told = number(4) + 4;
        int[] order = {16, 17, 18, 0, 8, 7, 9, 6, 10, 5, 11, 4, 12, 3, 13, 2, 14, 1, 15};
        int[] lengths = new int[19];
        for (int i = 0; i < told; i++) {
            lengths[order[i]] = number(3);
        }
        must(areComplete(lengths), 24, block);
        List<Integer> row = rowOfLengths(codes(lengths), h, h + k, block);
        int[] all = row.stream().mapToInt(Integer::intValue).toArray();
        int[] distances = java.util.Arrays.copyOfRange(all, h, h + k);
        int sum = java.util.Arrays.stream(distances).sum();
        must(areComplete(distances) || sum <= 1, 24, block);
        symbols(codes(java.util.Arrays.copyOf(all, h)), codes(distances));
    }

    private List<Integer> rowOfLengths(Map<String, Integer> codes, int h, int all, int block) throws Fault {
        List<Integer> row = new ArrayList<>();
        boolean looked = false;
        while (row.size() < all) {
            int symbol = symbol(codes, block);
            must(symbol != 16 || !row.isEmpty(), 24, block);
            int length = symbol < 16 ? symbol : symbol == 16 ? row.get(row.size() - 1) : 0;
            int times = switch (symbol) {
                case 16 -> 3 + number(2);
                case 17 -> 3 + number(3);
                case 18 -> 11 + number(7);
                default -> 1;
            };
            for (int i = 0; i < times; i++) {
                row.add(length);
            }
            must(row.size() <= all, 24, block);
            must(row.size() <= 256 || row.get(256) != 0, 24, block);
            if (!looked && row.size() >= h) {
                looked = true;
                must(areComplete(row.subList(0, h).stream().mapToInt(Integer::intValue).toArray()), 24, block);
            }
        }
        return row;
    }

    private void symbols(Map<String, Integer> symbols, Map<String, Integer> distances) throws Fault {
        while (true) {
            int place = place();
            int symbol = symbol(symbols, place);
            if (symbol == 256) {
                return;
            }
            if (symbol < 256) {
                come((char) symbol, place);
            } else {
                must(symbol <= 285, 25, place);
                copy(symbol, distances, place);
            }
        }
    }

    private void copy(int symbol, Map<String, Integer> distances, int place) throws Fault {
        int length = 3;
        for (int before = 257; before < symbol; before++) {
            length += 1 << lengthBits(before);
        }
        length = symbol == 285 ? 258 : length + number(lengthBits(symbol));
        int far = symbol(distances, place);
        must(far <= 29, 25, place);
        int distance = 1;
        for (int before = 0; before < far; before++) {
            distance += 1 << distanceBits(before);
        }
        distance += number(distanceBits(far));
        must(distance <= out.length(), 26, place);
        for (int i = 0; i < length; i++) {
            come(out.charAt(out.length() - distance), place);
        }
    }

    private static int lengthBits(int symbol) {
        return symbol <= 264 ? 0 : 1 + (symbol - 265) / 4;
    }

    private static int distanceBits(int symbol) {
        return symbol <= 3 ? 0 : 1 + (symbol - 4) / 2;
    }
}
