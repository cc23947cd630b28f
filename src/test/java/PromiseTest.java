import java.util.ArrayList;
import java.util.List;

/** For each promise of the document: ordinary inputs, the edges that it names, and wrong inputs, which change nothing. */
public final class PromiseTest {
    private static final int NONE = -1, UNKNOWN = -100001, OUTSIDE = -100002, NOT = -100003, FULL = -100004, TORN = -100005;
    private static final int LOW = Integer.MIN_VALUE, HIGH = Integer.MAX_VALUE;
    private static int promise = 0;
    private static int wrong = 0;
    private static int asked = 0;

    private static void due(long got, long want, String what) {
        asked++;
        if (got != want) {
            wrong++;
            System.out.println("promise " + promise + ": " + what + " answered " + got + ", due is " + want);
        }
    }

    /** One SIGN for each letter of hex. */
    private static void feed(SignCellar x, String hex) {
        for (char c : hex.toCharArray()) {
            x.feed(1, Character.digit(c, 16));
        }
    }

    private static int version(SignCellar x, String hex) {
        feed(x, hex);
        return x.make();
    }

    private static SignCellar with(String hex) {
        SignCellar x = new SignCellar();
        version(x, hex);
        return x;
    }

    private static String text(SignCellar x, int v) {
        StringBuilder s = new StringBuilder();
        for (int p = 0; p < x.about(v, 0); p++) {
            int sign = x.open(v, p);
            s.append(sign < 0 ? "?" : Integer.toHexString(sign));
        }
        return s.toString();
    }

    private static void dueText(SignCellar x, int v, String want) {
        asked++;
        if (!text(x, v).equals(want)) {
            wrong++;
            System.out.println("promise " + promise + ": VERSION " + v + " is " + text(x, v) + ", due is " + want);
        }
    }

    private static void dueRow(SignCellar x, int v, int... want) {
        due(x.about(v, 1), want.length, "about(" + v + ", 1)");
        for (int i = 0; i < want.length; i++) {
            due(x.block(v, i), want[i], "block(" + v + ", " + i + ")");
        }
    }

    /** 96 SIGNS in six unlike BLOCKS. */
    private static String sixBlocks() {
        StringBuilder six = new StringBuilder();
        for (int i = 0; i < 96; i++) {
            six.append(Integer.toHexString(i * i * 7 / 5 + i / 16 & 15));
        }
        return six.toString();
    }

    /** Its VERSION 18 has eight BLOCKS: the first and the last one of six are split. */
    private static SignCellar eightBlocks() {
        SignCellar x = with(sixBlocks());
        for (int v = 0; v < 18; v++) {
            due(x.put(v, v < 9 ? 0 : x.about(v, 0), 1), v + 1, "put");
        }
        due(x.about(18, 1), 8, "about(18, 1)");
        return x;
    }

    /** All that can be seen of an object, in a row. */
    private static List<Long> state(SignCellar x) {
        List<Long> all = new ArrayList<>();
        for (int what = 0; what < 7; what++) {
            all.add((long) x.count(what));
        }
        for (int v = 0; v < x.count(1); v++) {
            for (int what = 0; what < 5; what++) {
                all.add((long) x.about(v, what));
            }
            for (int i = 0; i < 8; i++) {
                all.add((long) x.block(v, i));
            }
            for (int p = 0; p < x.about(v, 0); p++) {
                all.add((long) x.open(v, p));
            }
            for (int k = 0; k < 48; k++) {
                all.add((long) x.sums(v, k / 24, k % 24));
            }
            for (int k = 0; k < 4; k++) {
                all.add((long) x.seek(v, k, NONE));
            }
        }
        for (int b = 0; b < x.count(2); b++) {
            for (int what = 0; what < 3; what++) {
                all.add((long) x.told(b, what));
            }
        }
        return all;
    }

    private static void sameState(SignCellar x, List<Long> before, String what) {
        due(state(x).equals(before) ? 1 : 0, 1, what + " changes nothing:");
    }

    /** 29 VERSIONS more of a single SIGN each way, so that there are 30. */
    private static void fillVersions(SignCellar x) {
        for (int i = x.count(1); i < 30; i++) {
            feed(x, "f");
            x.make();
        }
        due(x.count(1), 30, "count(1)");
    }

    private static void newObject() {
        promise = 1;
        SignCellar x = new SignCellar();
        for (int what = 0; what < 7; what++) {
            due(x.count(what), 0, "count(" + what + ")");
        }
        due(x.make(), NOT, "make()");
        due(x.clear(), 0, "clear()");
        due(x.about(0, 0), UNKNOWN, "about(0, 0)");
        due(x.told(0, 0), UNKNOWN, "told(0, 0)");
    }

    private static void feed() {
        promise = 2;
        SignCellar x = new SignCellar();
        due(x.feed(3, 0x123L), 3, "feed(3, 0x123)");
        due(x.feed(2, 0xabcL), 5, "feed(2, 0xabc)");
        due(x.feed(15, -1L), 20, "feed(15, -1)");
        due(x.feed(0, 5), OUTSIDE, "feed(0, 5)");
        due(x.feed(16, 5), OUTSIDE, "feed(16, 5)");
        due(x.feed(-1, 5), OUTSIDE, "feed(-1, 5)");
        due(x.feed(LOW, 5), OUTSIDE, "feed(LOW, 5)");
        due(x.feed(HIGH, 5), OUTSIDE, "feed(HIGH, 5)");
        due(x.count(0), 20, "count(0)");
        due(x.make(), 0, "make()");
        dueText(x, 0, "123bcfffffffffffffff");
        for (int i = 1; i <= 6; i++) {
            due(x.feed(15, 0x0123456789abcdeL), 15 * i, "feed(15, ..)");
        }
        due(x.feed(7, 1), FULL, "feed(7, 1)");
        due(x.feed(16, 1), OUTSIDE, "feed(16, 1) of a full draft");
        due(x.count(0), 90, "count(0)");
        due(x.feed(6, 0x123456), 96, "feed(6, ..)");
        due(x.feed(1, 0), FULL, "feed(1, 0)");
        due(x.make(), 1, "make()");
        due(x.about(1, 0), 96, "about(1, 0)");
        due(x.open(1, 95), 6, "open(1, 95)");
        due(x.open(1, 90), 1, "open(1, 90)");
    }

    private static void make() {
        promise = 3;
        SignCellar x = new SignCellar();
        due(version(x, "0123456789abcdef" + "0123456789abcdef" + "01"), 0, "make()");
        dueRow(x, 0, 0, 0, 1);
        due(x.about(0, 3), 2, "about(0, 3)");
        due(x.count(0), 0, "count(0)");
        due(x.make(), NOT, "make()");
        due(version(x, "01"), 1, "make()");
        dueRow(x, 1, 1);
        due(x.tear(1), 1, "tear(1)");
        due(version(x, "01"), 2, "make()");
        dueRow(x, 2, 2);
        due(x.restore(1), 1, "restore(1)");
        due(version(x, "01"), 3, "make() with two like BLOCKS");
        dueRow(x, 3, 1);
        due(version(x, "012"), 4, "make()");
        dueRow(x, 4, 3);
        fillVersions(x);
        due(x.make(), NOT, "make() with an empty draft and 30 VERSIONS");
        feed(x, "777");
        List<Long> before = state(x);
        due(x.make(), FULL, "make()");
        sameState(x, before, "make()");
        due(x.count(0), 3, "count(0)");
    }

    private static void change() {
        promise = 4;
        SignCellar x = with("0123456789abcdef" + "0000");
        due(x.change(0, 15, 0), 1, "change(0, 15, 0)");
        dueText(x, 1, "0123456789abcde0" + "0000");
        dueText(x, 0, "0123456789abcdef" + "0000");
        dueRow(x, 1, 2, 1);
        due(x.about(1, 2), 0, "about(1, 2)");
        due(x.change(0, 16, 7), 2, "change(0, 16, 7)");
        dueText(x, 2, "0123456789abcdef" + "7000");
        due(x.change(2, 16, 0), 3, "change(2, 16, 0)");
        dueRow(x, 3, 0, 1);
        due(x.about(3, 3), 0, "about(3, 3)");
        due(x.change(3, 3, 3), 4, "change(3, 3, 3) to the same SIGN");
        dueRow(x, 4, 0, 1);
        List<Long> before = state(x);
        due(x.change(5, 0, 0), UNKNOWN, "change(5, 0, 0)");
        due(x.change(-1, 0, 0), UNKNOWN, "change(-1, 0, 0)");
        due(x.change(0, 20, 0), UNKNOWN, "change(0, 20, 0)");
        due(x.change(0, -1, 16), UNKNOWN, "change(0, -1, 16)");
        due(x.change(0, HIGH, 16), UNKNOWN, "change(0, HIGH, 16)");
        due(x.change(0, 0, 16), OUTSIDE, "change(0, 0, 16)");
        due(x.change(0, 0, -1), OUTSIDE, "change(0, 0, -1)");
        sameState(x, before, "a refused change");
        x.tear(1);
        before = state(x);
        due(x.change(0, 0, 16), OUTSIDE, "change(0, 0, 16) ahead of TORN");
        due(x.change(0, 0, 1), TORN, "change(0, 0, 1)");
        sameState(x, before, "change of a TORN one");
        fillVersions(x);
        before = state(x);
        due(x.change(0, 0, 16), OUTSIDE, "change(0, 0, 16) ahead of FULL");
        due(x.change(0, 0, 1), FULL, "change(0, 0, 1) ahead of TORN");
        sameState(x, before, "change, FULL");
    }

    private static void put() {
        promise = 5;
        SignCellar x = with("0123456789abcdef" + "4444");
        due(x.put(0, 16, 9), 1, "put(0, 16, 9)");
        dueText(x, 1, "0123456789abcdef" + "94444");
        dueRow(x, 1, 0, 2);
        due(x.put(0, 20, 9), 2, "put(0, 20, 9)");
        dueText(x, 2, "0123456789abcdef" + "44449");
        due(x.put(0, 15, 9), 3, "put(0, 15, 9)");
        dueText(x, 3, "0123456789abcde9f" + "4444");
        List<Long> before = state(x);
        due(x.put(0, 21, 0), UNKNOWN, "put(0, 21, 0)");
        due(x.put(0, -1, 0), UNKNOWN, "put(0, -1, 0)");
        due(x.put(4, 0, 0), UNKNOWN, "put(4, 0, 0)");
        due(x.put(0, 0, 16), OUTSIDE, "put(0, 0, 16)");
        due(x.put(0, 20, -1), OUTSIDE, "put(0, 20, -1)");
        sameState(x, before, "a refused put");
        x.tear(0);
        due(x.put(0, 20, 1), TORN, "put(0, 20, 1) of a TORN one");
        putSplits();
        putNinth();
    }

    private static void putSplits() {
        SignCellar x = with("0123456789abcdef");
        for (int i = 0; i < 8; i++) {
            due(x.put(i, 16 + i, 5), i + 1, "put(" + i + ", ..)");
            due(x.about(i + 1, 1), 1, "about(.., 1)");
        }
        due(x.put(8, 12, 7), 9, "put(8, 12, 7)");
        dueText(x, 9, "0123456789ab" + "7cdef55555555");
        due(x.told(x.block(9, 0), 0), 12, "told(.., 0)");
        due(x.told(x.block(9, 1), 0), 13, "told(.., 0)");
        due(x.about(9, 3), 2, "about(9, 3)");
        due(x.put(8, 24, 5), 10, "put(8, 24, 5)");
        due(x.block(10, 0), x.block(9, 0), "block(10, 0)");
        due(x.about(10, 3), 1, "about(10, 3)");
        due(x.strike(x.put(0, 0, 0), 0), 12, "strike");
        dueRow(x, 12, 0);
    }

    /** One more BLOCK of eight is grown to 24: the ninth has no room. */
    private static void putNinth() {
        SignCellar x = eightBlocks();
        int v = 18;
        for (int i = 18; i < 26; i++) {
            v = x.put(v, x.about(v, 0) - 40, 1);
            due(v, i + 1, "put");
        }
        due(x.about(v, 1), 8, "about(v, 1)");
        int full = NONE;
        for (int i = 0; i < 8; i++) {
            if (x.told(x.block(v, i), 0) == 24) {
                full = i;
            }
        }
        due(full >= 0 ? 1 : 0, 1, "a BLOCK of 24:");
        int place = 0;
        for (int i = 0; i < full; i++) {
            place += x.told(x.block(v, i), 0);
        }
        List<Long> before = state(x);
        due(x.put(v, place, 3), FULL, "put with 9 BLOCKS then");
        due(x.put(v, place, 16), OUTSIDE, "put with 9 BLOCKS then and no SIGN");
        sameState(x, before, "put, FULL");
        x.tear(x.block(v, 0));
        due(x.put(v, place, 3), FULL, "put with 9 BLOCKS then, ahead of TORN");
        due(x.put(v, 0, 3), TORN, "put with 8 BLOCKS then");
        x.restore(v);
        due(x.put(v, 0, 3), 27, "put with 8 BLOCKS then");
        fillVersions(x);
        before = state(x);
        due(x.put(0, 0, 3), FULL, "put with 30 VERSIONS");
        sameState(x, before, "put, FULL");
    }

    private static void strike() {
        promise = 6;
        SignCellar x = with("0123456789abcdef" + "7");
        due(x.strike(0, 0), 1, "strike(0, 0)");
        dueText(x, 1, "123456789abcdef" + "7");
        due(x.strike(0, 16), 2, "strike(0, 16)");
        dueText(x, 2, "0123456789abcdef");
        dueRow(x, 2, 0);
        due(x.about(2, 3), 0, "about(2, 3)");
        due(x.about(2, 2), 0, "about(2, 2)");
        int v = 0;
        for (int i = 0; i < 16; i++) {
            v = x.strike(v, 0);
        }
        dueRow(x, v, 1);
        v = x.strike(v, 0);
        dueRow(x, v);
        due(x.about(v, 0), 0, "about(v, 0)");
        due(x.strike(v, 0), UNKNOWN, "strike(v, 0) of nothing");
        v = x.put(v, 0, 12);
        dueText(x, v, "c");
        List<Long> before = state(x);
        due(x.strike(0, 17), UNKNOWN, "strike(0, 17)");
        due(x.strike(0, -1), UNKNOWN, "strike(0, -1)");
        due(x.strike(-1, 0), UNKNOWN, "strike(-1, 0)");
        due(x.strike(99, 0), UNKNOWN, "strike(99, 0)");
        sameState(x, before, "a refused strike");
        x.tear(1);
        due(x.strike(0, 0), TORN, "strike(0, 0)");
        due(x.strike(0, 16), TORN, "strike(0, 16) of the TORN BLOCK");
        fillVersions(x);
        before = state(x);
        due(x.strike(0, 0), FULL, "strike(0, 0) ahead of TORN");
        due(x.strike(2, 0), FULL, "strike(2, 0)");
        due(x.strike(0, 17), UNKNOWN, "strike(0, 17) ahead of FULL");
        sameState(x, before, "strike, FULL");
    }

    private static void about() {
        promise = 7;
        SignCellar x = with("0".repeat(32) + "1");
        due(x.about(0, 0), 33, "about(0, 0)");
        due(x.about(0, 1), 3, "about(0, 1)");
        due(x.about(0, 2), NONE, "about(0, 2)");
        due(x.about(0, 3), 2, "about(0, 3)");
        due(x.about(0, 4), 0, "about(0, 4)");
        x.strike(0, 32);
        due(x.about(1, 2), 0, "about(1, 2)");
        due(x.about(1, 3), 0, "about(1, 3)");
        x.tear(1);
        due(x.about(0, 4), 1, "about(0, 4)");
        due(x.about(1, 4), 0, "about(1, 4)");
        x.tear(0);
        due(x.about(0, 4), 3, "about(0, 4)");
        due(x.about(1, 4), 2, "about(1, 4)");
        due(x.about(0, 0), 33, "about(0, 0) of TORN ones");
        due(x.about(0, 5), OUTSIDE, "about(0, 5)");
        due(x.about(0, -1), OUTSIDE, "about(0, -1)");
        due(x.about(2, 5), UNKNOWN, "about(2, 5)");
        due(x.about(-1, 0), UNKNOWN, "about(-1, 0)");
    }

    private static void block() {
        promise = 8;
        SignCellar x = with("0".repeat(16) + "1".repeat(16) + "0".repeat(16));
        dueRow(x, 0, 0, 1, 0);
        due(x.block(0, 3), NONE, "block(0, 3)");
        due(x.block(0, -1), NONE, "block(0, -1)");
        due(x.block(0, HIGH), NONE, "block(0, HIGH)");
        due(x.block(1, 0), UNKNOWN, "block(1, 0)");
        due(x.block(-1, 0), UNKNOWN, "block(-1, 0)");
    }

    private static void open() {
        promise = 9;
        SignCellar x = with("0123456789abcdef" + "3");
        dueText(x, 0, "0123456789abcdef" + "3");
        due(x.open(0, 17), UNKNOWN, "open(0, 17)");
        due(x.open(0, -1), UNKNOWN, "open(0, -1)");
        due(x.open(1, 0), UNKNOWN, "open(1, 0)");
        due(x.open(LOW, HIGH), UNKNOWN, "open(LOW, HIGH)");
        x.tear(1);
        due(x.open(0, 15), 15, "open(0, 15)");
        due(x.open(0, 16), TORN, "open(0, 16)");
        due(x.open(0, 17), UNKNOWN, "open(0, 17)");
    }

    private static void told() {
        promise = 10;
        SignCellar x = with("0".repeat(32) + "12");
        due(x.told(0, 0), 16, "told(0, 0)");
        due(x.told(1, 0), 2, "told(1, 0)");
        due(x.told(0, 1), 0, "told(0, 1)");
        due(x.told(0, 2), 1, "told(0, 2)");
        x.change(0, 32, 5);
        due(x.told(0, 2), 2, "told(0, 2)");
        due(x.told(1, 2), 1, "told(1, 2)");
        x.tear(1);
        due(x.told(1, 0), 2, "told(1, 0)");
        due(x.told(1, 1), 1, "told(1, 1)");
        due(x.told(1, 2), 1, "told(1, 2)");
        due(x.told(1, 3), OUTSIDE, "told(1, 3)");
        due(x.told(1, -1), OUTSIDE, "told(1, -1)");
        due(x.told(3, 3), UNKNOWN, "told(3, 3)");
        due(x.told(-1, 0), UNKNOWN, "told(-1, 0)");
    }

    private static void count() {
        promise = 11;
        SignCellar x = with("0".repeat(32) + "12");
        x.change(0, 32, 5);
        x.feed(4, 5);
        x.sign(3);
        x.sign(3);
        x.tear(0);
        int[] want = {4, 2, 3, 1, 2, 20, 68};
        for (int what = 0; what < 7; what++) {
            due(x.count(what), want[what], "count(" + what + ")");
        }
        due(x.count(7), OUTSIDE, "count(7)");
        due(x.count(-1), OUTSIDE, "count(-1)");
    }

    private static void share() {
        promise = 12;
        SignCellar x = with("0".repeat(32) + "1".repeat(16) + "2");
        x.change(0, 0, 4);
        x.strike(0, 48);
        version(x, "5");
        due(x.share(0, 0), 3, "share(0, 0)");
        due(x.share(0, 1), 3, "share(0, 1)");
        due(x.share(1, 2), 2, "share(1, 2)");
        due(x.share(2, 0), 2, "share(2, 0)");
        due(x.share(0, 3), 0, "share(0, 3)");
        due(x.share(0, 4), UNKNOWN, "share(0, 4)");
        due(x.share(-1, 0), UNKNOWN, "share(-1, 0)");
    }

    private static void size() {
        promise = 13;
        SignCellar x = with("5");
        int[] one = {4, 5, 5, 6, 10};
        for (int kind = 0; kind < 5; kind++) {
            due(x.size(0, kind), one[kind], "size(0, " + kind + ")");
        }
        version(x, "0101010101010101");
        int[] two = {64, 32, 43, 41, 25};
        for (int kind = 0; kind < 5; kind++) {
            due(x.size(1, kind), two[kind], "size(1, " + kind + ")");
        }
        due(x.size(2, 0), UNKNOWN, "size(2, 0)");
        due(x.size(-1, 9), UNKNOWN, "size(-1, 9)");
        due(x.size(0, 5), OUTSIDE, "size(0, 5)");
        due(x.size(0, -1), OUTSIDE, "size(0, -1)");
        x.tear(0);
        due(x.size(0, 0), TORN, "size(0, 0)");
        due(x.size(0, 5), OUTSIDE, "size(0, 5) ahead of TORN");
        x.restore(0);
        due(x.size(0, 0), 4, "size(0, 0)");
    }

    private static void time() {
        promise = 14;
        SignCellar x = with("0101010101010101");
        int[] want = {16, 20, 35, 96, 48};
        for (int kind = 0; kind < 5; kind++) {
            due(x.time(0, kind), want[kind], "time(0, " + kind + ")");
        }
        due(x.time(1, 0), UNKNOWN, "time(1, 0)");
        due(x.time(0, 5), OUTSIDE, "time(0, 5)");
        due(x.time(0, -1), OUTSIDE, "time(0, -1)");
        x.tear(0);
        due(x.time(0, 0), TORN, "time(0, 0)");
        due(x.time(0, 5), OUTSIDE, "time(0, 5) ahead of TORN");
    }

    private static void cut() {
        promise = 15;
        SignCellar x = with("0101010101010101");
        int[] want = {0, 0, 16 * 5 + 2, 16 * 9 + 2};
        due(x.cut(0, NONE), 4, "cut(0, NONE)");
        for (int i = 0; i < 4; i++) {
            due(x.cut(0, i), want[i], "cut(0, " + i + ")");
        }
        due(x.cut(0, 4), NONE, "cut(0, 4)");
        due(x.cut(0, -2), NONE, "cut(0, -2)");
        // two SIGNS are cheaper alone (10) than as a MATE (11)
        version(x, "1212");
        due(x.cut(1, NONE), 4, "cut(1, NONE)");
        // the nearer of two like MATES
        version(x, "123012301230");
        due(x.cut(2, NONE), 5, "cut(2, NONE)");
        due(x.cut(2, 4), 16 * 8 + 4, "cut(2, 4)");
        // 15 back is the farthest
        version(x, "0123456789abcdef");
        version(x, "0123456789abcde0");
        int v = x.put(x.put(4, 16, 1), 17, 2);
        due(x.cut(x.block(v, 0), 15), 16 * 3 + 15, "cut(.., 15)");
        v = x.put(x.put(x.put(3, 16, 0), 17, 1), 18, 2);
        due(x.cut(x.block(v, 0), NONE), 19, "cut(.., NONE)");
        due(x.cut(99, 0), UNKNOWN, "cut(99, 0)");
        x.tear(0);
        due(x.cut(0, NONE), TORN, "cut(0, NONE)");
    }

    private static void rule() {
        promise = 16;
        // 0 1 stands thrice: RULE 0; RULE 0 and 2 stand twice: RULE 1; and RULE 0 once more in the row
        SignCellar x = with("0120123014");
        due(x.rule(0, 2, 0), 2, "rule(0, 2, 0)");
        due(x.rule(0, 1, 0), 2, "rule(0, 1, 0)");
        due(x.rule(0, 0, 0), 5, "rule(0, 0, 0)");
        int[] row = {17, 17, 3, 16, 4};
        for (int i = 0; i < 5; i++) {
            due(x.rule(0, 3, i), row[i], "rule(0, 3, " + i + ")");
        }
        due(x.rule(0, 3, 5), NONE, "rule(0, 3, 5)");
        due(x.rule(0, 3, -1), NONE, "rule(0, 3, -1)");
        due(x.rule(0, 4, 0), 2, "rule(0, 4, 0)");
        due(x.rule(0, 4, 2), NONE, "rule(0, 4, 2)");
        due(x.rule(0, 4, -1), NONE, "rule(0, 4, -1)");
        due(x.rule(0, 10, 1), 16, "rule(0, 10, 1)");
        due(x.rule(0, 11, 1), 2, "rule(0, 11, 1)");
        due(x.rule(0, 12, 1), NONE, "rule(0, 12, 1)");
        due(x.rule(0, HIGH, 1), NONE, "rule(0, HIGH, 1)");
        due(x.rule(0, 10, 2), NONE, "rule(0, 10, 2)");
        // cleaned: R0 = 0 1 stands only in R1 = R0 2
        version(x, "0123012");
        due(x.rule(1, 2, 0), 2, "rule(1, 2, 0)");
        due(x.rule(1, 1, 0), 1, "rule(1, 1, 0)");
        due(x.rule(1, 4, 0), 0, "rule(1, 4, 0)");
        due(x.rule(1, 10, 0), NONE, "rule(1, 10, 0)");
        due(x.rule(1, 4, 1), 3, "rule(1, 4, 1)");
        due(x.rule(1, 12, 1), 2, "rule(1, 12, 1)");
        // of 555 the pair stands once
        version(x, "555");
        due(x.rule(2, 0, 0), 3, "rule(2, 0, 0)");
        due(x.rule(2, 2, 0), 0, "rule(2, 2, 0)");
        // of like ones the first by its former piece
        version(x, "91918282");
        due(x.rule(3, 10, 0), 8, "rule(3, 10, 0)");
        // then by its latter one
        version(x, "53a52b53c52");
        due(x.rule(4, 10, 0), 5, "rule(4, 10, 0)");
        due(x.rule(4, 11, 0), 2, "rule(4, 11, 0)");
        due(x.rule(4, 11, 1), 3, "rule(4, 11, 1)");
        due(x.rule(0, -1, 0), OUTSIDE, "rule(0, -1, 0)");
        due(x.rule(0, 5, 0), OUTSIDE, "rule(0, 5, 0)");
        due(x.rule(0, 9, 0), OUTSIDE, "rule(0, 9, 0)");
        due(x.rule(99, 9, 0), UNKNOWN, "rule(99, 9, 0)");
        x.tear(0);
        due(x.rule(0, 0, 0), TORN, "rule(0, 0, 0)");
        due(x.rule(0, 9, 0), OUTSIDE, "rule(0, 9, 0) ahead of TORN");
    }

    private static void dueBits(SignCellar x, int b, String bits) {
        for (int i = 0; i < bits.length(); i++) {
            due(x.bit(b, i), bits.charAt(i) - '0', "bit(" + b + ", " + i + ")");
        }
        due(x.bit(b, bits.length()), NONE, "bit(" + b + ", " + bits.length() + ")");
    }

    private static void bit() {
        promise = 17;
        // 5 of 16 like odds is 20480 to 24575: the bits 0101, and at the end 01
        SignCellar x = with("5");
        int[] want = {0, 1, 0, 1, 0, 1};
        for (int i = 0; i < 6; i++) {
            due(x.bit(0, i), want[i], "bit(0, " + i + ")");
        }
        // here high is 32768 itself once, and there 49152, neither of which is below it
        version(x, "1101112");
        dueBits(x, 1, "000100010000000100001111111");
        version(x, "a999999a9999999");
        dueBits(x, 2, "101010011001100110011010001010011100100");
        due(x.bit(0, 6), NONE, "bit(0, 6)");
        due(x.bit(0, -1), NONE, "bit(0, -1)");
        due(x.bit(3, 0), UNKNOWN, "bit(3, 0)");
        x.tear(0);
        due(x.bit(0, 0), TORN, "bit(0, 0)");
        due(x.bit(0, 6), TORN, "bit(0, 6)");
    }

    private static void turned() {
        promise = 18;
        // turns of 1 0 1 $: $101, 01$1, 1$10, 101$
        SignCellar x = with("101");
        due(x.turned(0, 0, 99), 3, "turned(0, 0, 99)");
        int[] last = {1, 1, 0};
        int[] places = {1, 0, 1};
        for (int i = 0; i < 3; i++) {
            due(x.turned(0, 1, i), last[i], "turned(0, 1, " + i + ")");
            due(x.turned(0, 2, i), places[i], "turned(0, 2, " + i + ")");
        }
        due(x.turned(0, 1, 3), NONE, "turned(0, 1, 3)");
        due(x.turned(0, 2, 3), NONE, "turned(0, 2, 3)");
        due(x.turned(0, 1, -1), NONE, "turned(0, 1, -1)");
        due(x.turned(0, 3, 0), OUTSIDE, "turned(0, 3, 0)");
        due(x.turned(0, -1, 0), OUTSIDE, "turned(0, -1, 0)");
        due(x.turned(1, 3, 0), UNKNOWN, "turned(1, 3, 0)");
        due(x.size(0, 4), 5 + 3 + 1 + 3, "size(0, 4)");
        x.tear(0);
        due(x.turned(0, 0, 0), TORN, "turned(0, 0, 0)");
        due(x.turned(0, 3, 0), OUTSIDE, "turned(0, 3, 0) ahead of TORN");
    }

    private static void best() {
        promise = 19;
        SignCellar x = with("0".repeat(16) + "1".repeat(16) + "5");
        due(x.best(0, 33, NONE), 132, "best(0, 33, NONE)");
        due(x.best(0, 33, -2), 33, "best(0, 33, -2)");
        due(x.best(0, 32, NONE), NOT, "best(0, 32, NONE)");
        due(x.best(0, 32, 9), NOT, "best(0, 32, 9)");
        // MATES for one of two like BLOCKS: PLAIN comes first
        due(x.best(0, 36, NONE), 64 + 27 + 4, "best(0, 36, NONE)");
        due(x.best(0, 36, 0), 0, "best(0, 36, 0)");
        due(x.best(0, 36, 1), 1, "best(0, 36, 1)");
        due(x.best(0, 36, 2), 0, "best(0, 36, 2)");
        due(x.best(0, 36, 3), NONE, "best(0, 36, 3)");
        due(x.best(0, 36, -2), 36, "best(0, 36, -2)");
        due(x.best(0, 9999, NONE), x.size(0, 4) + x.size(1, 4) + 4, "best(0, 9999, NONE)");
        due(x.best(0, 9999, -2), 97, "best(0, 9999, -2)");
        due(x.best(0, 10000, 0), OUTSIDE, "best(0, 10000, 0)");
        due(x.best(0, -1, 0), OUTSIDE, "best(0, -1, 0)");
        due(x.best(0, 0, -3), OUTSIDE, "best(0, 0, -3)");
        due(x.best(1, -1, -3), UNKNOWN, "best(1, -1, -3)");
        x.tear(2);
        due(x.best(0, 0, 0), TORN, "best(0, 0, 0) ahead of NOT");
        due(x.best(0, 0, -3), OUTSIDE, "best(0, 0, -3) ahead of TORN");
        SignCellar eight = eightBlocks();
        int least = 0;
        for (int i = 0; i < 8; i++) {
            int smallest = eight.size(eight.block(18, i), 0);
            for (int kind = 1; kind < 5; kind++) {
                smallest = Math.min(smallest, eight.size(eight.block(18, i), kind));
            }
            least += smallest;
        }
        due(eight.best(18, 9999, NONE), least, "best(18, 9999, NONE)");
        due(eight.best(18, 114, -2), 114, "best(18, 114, -2)");
        due(eight.best(18, 113, -2), NOT, "best(18, 113, -2)");
        x = with("7");
        x.strike(0, 0);
        due(x.best(1, 0, NONE), 0, "best of no BLOCKS");
        due(x.best(1, 0, 0), NONE, "best(1, 0, 0)");
        due(x.best(0, 0, 0), NOT, "best(0, 0, 0)");
    }

    private static void sign() {
        promise = 20;
        SignCellar x = new SignCellar();
        due(x.sign(0), OUTSIDE, "sign(0)");
        due(x.sign(-1), OUTSIDE, "sign(-1)");
        due(x.sign(65536), OUTSIDE, "sign(65536)");
        due(x.count(4), 0, "count(4)");
        for (int i = 1; i <= 12; i++) {
            due(x.sign(i == 1 ? 65535 : 1), i, "sign");
        }
        due(x.sign(1), FULL, "sign(1)");
        due(x.sign(0), OUTSIDE, "sign(0) ahead of FULL");
        due(x.count(4), 12, "count(4)");
    }

    private static void clear() {
        promise = 21;
        SignCellar x = new SignCellar();
        due(x.clear(), 0, "clear()");
        x.sign(1);
        x.sign(2);
        due(x.clear(), 2, "clear()");
        due(x.count(4), 0, "count(4)");
        due(x.sign(4), 1, "sign(4)");
        version(x, "2");
        due(x.seek(0, 0, NONE), 1, "seek(0, 0, NONE)");
    }

    private static void seek() {
        promise = 22;
        SignCellar x = with("012301230123012" + "3" + "0123");
        due(x.seek(0, 0, NONE), NOT, "seek without a PATTERN");
        due(x.seek(0, 4, NONE), OUTSIDE, "seek(0, 4, NONE)");
        due(x.seek(0, -1, NONE), OUTSIDE, "seek(0, -1, NONE)");
        due(x.seek(1, 4, NONE), UNKNOWN, "seek(1, 4, NONE)");
        x.sign(1 << 2 | 1 << 1);
        x.sign(1 << 3);
        x.sign(1 << 0);
        // 2 3 0 over the edge of the BLOCKS too, but not behind the end
        int[] want = {2, 6, 10, 14};
        due(x.seek(0, 0, NONE), 4, "seek(0, 0, NONE)");
        for (int i = 0; i < 4; i++) {
            due(x.seek(0, 0, i), want[i], "seek(0, 0, " + i + ")");
        }
        due(x.seek(0, 0, 4), NONE, "seek(0, 0, 4)");
        due(x.seek(0, 0, -2), NONE, "seek(0, 0, -2)");
        due(x.seek(0, 1, NONE), 4, "seek(0, 1, NONE)");
        due(x.seek(0, 2, NONE), 9, "seek(0, 2, NONE)");
        due(x.seek(0, 3, NONE), 18, "seek(0, 3, NONE)");
        version(x, "23");
        due(x.seek(1, 3, NONE), 0, "seek of a short VERSION");
        due(x.seek(1, 3, 0), NONE, "seek(1, 3, 0)");
        x.tear(1);
        due(x.seek(0, 0, 0), TORN, "seek(0, 0, 0)");
        due(x.seek(0, 4, 0), OUTSIDE, "seek(0, 4, 0) ahead of TORN");
        x.clear();
        due(x.seek(0, 0, 0), NOT, "seek(0, 0, 0) ahead of TORN");
    }

    private static void span() {
        promise = 23;
        SignCellar x = with("3344556677889911" + "2fffff000000");
        due(x.span(0, 0, 28, 0), 2 * (3 + 4 + 5 + 6 + 7 + 8 + 9 + 1) + 2 + 75, "span(0, 0, 28, 0)");
        due(x.span(0, 0, 16, 1), 1, "span(0, 0, 16, 1)");
        due(x.span(0, 0, 16, 2), 9, "span(0, 0, 16, 2)");
        due(x.span(0, 0, 16, 3), 1, "span(0, 0, 16, 3)");
        due(x.span(0, 0, 14, 3), 3, "span(0, 0, 14, 3)");
        due(x.span(0, 15, 21, 3), 15, "span(0, 15, 21, 3)");
        due(x.span(0, 17, 28, 3), 0, "span(0, 17, 28, 3)");
        due(x.span(0, 27, 28, 0), 0, "span(0, 27, 28, 0)");
        due(x.span(0, 28, 28, 0), UNKNOWN, "span(0, 28, 28, 0)");
        due(x.span(0, 0, 29, 0), UNKNOWN, "span(0, 0, 29, 0)");
        due(x.span(0, -1, 3, 0), UNKNOWN, "span(0, -1, 3, 0)");
        due(x.span(0, 3, 2, 4), UNKNOWN, "span(0, 3, 2, 4)");
        due(x.span(1, 0, 1, 0), UNKNOWN, "span(1, 0, 1, 0)");
        due(x.span(0, 0, 1, 4), OUTSIDE, "span(0, 0, 1, 4)");
        due(x.span(0, 0, 1, -1), OUTSIDE, "span(0, 0, 1, -1)");
        x.tear(0);
        due(x.span(0, 16, 28, 0), 77, "span(0, 16, 28, 0)");
        due(x.span(0, 16, 28, 1), 0, "span(0, 16, 28, 1)");
        due(x.span(0, 15, 28, 0), TORN, "span(0, 15, 28, 0)");
        due(x.span(0, 15, 28, 4), OUTSIDE, "span(0, 15, 28, 4) ahead of TORN");
    }

    private static void tear() {
        promise = 24;
        SignCellar x = with("0123");
        due(x.tear(1), UNKNOWN, "tear(1)");
        due(x.tear(-1), UNKNOWN, "tear(-1)");
        due(x.count(3), 0, "count(3)");
        due(x.tear(0), 1, "tear(0)");
        due(x.tear(0), NOT, "tear(0)");
        due(x.count(3), 1, "count(3)");
        dueText(x, 0, "????");
        due(x.restore(0), 1, "restore(0)");
        dueText(x, 0, "0123");
        due(x.tear(0), 1, "tear(0)");
    }

    private static void sums() {
        promise = 25;
        SignCellar x = with("0123456789abcdef" + "fedcba9876543210" + "5");
        due(x.sums(0, 0, 0), (0 + 15 + 5) % 17, "sums(0, 0, 0)");
        due(x.sums(0, 1, 0), (0 + 30 + 15) % 17, "sums(0, 1, 0)");
        due(x.sums(0, 0, 15), (15 + 0 + 16) % 17, "sums(0, 0, 15)");
        due(x.sums(0, 1, 15), (15 + 0 + 48) % 17, "sums(0, 1, 15)");
        due(x.sums(0, 0, 23), 48 % 17, "sums(0, 0, 23)");
        due(x.sums(0, 1, 23), 96 % 17, "sums(0, 1, 23)");
        x.tear(0);
        due(x.sums(0, 1, 15), (15 + 0 + 48) % 17, "sums(0, 1, 15) with a TORN BLOCK");
        due(x.sums(0, 0, 24), OUTSIDE, "sums(0, 0, 24)");
        due(x.sums(0, 0, -1), OUTSIDE, "sums(0, 0, -1)");
        due(x.sums(0, 2, 0), OUTSIDE, "sums(0, 2, 0)");
        due(x.sums(0, -1, 0), OUTSIDE, "sums(0, -1, 0)");
        due(x.sums(1, 2, 24), UNKNOWN, "sums(1, 2, 24)");
    }

    private static void restore() {
        promise = 26;
        SignCellar eight = eightBlocks();
        String all = text(eight, 18);
        for (int p = 0; p < 8; p++) {
            for (int q = 0; q < 8; q++) {
                eight.tear(eight.block(18, p));
                eight.tear(eight.block(18, q));
                due(eight.restore(18), p == q ? 1 : 2, "restore(18)");
                dueText(eight, 18, all);
                due(eight.restore(18), NOT, "restore(18) with none TORN");
            }
        }
        SignCellar x = with("0".repeat(32) + "1" .repeat(16) + "2");
        x.strike(0, 0);
        x.tear(0);
        due(x.restore(0), NOT, "restore(0) of one that stands twice");
        x.tear(1);
        due(x.restore(0), NOT, "restore(0) of one that stands twice, and another");
        due(x.count(3), 2, "count(3)");
        due(x.restore(1), 2, "restore(1)");
        dueText(x, 0, "0".repeat(32) + "1" .repeat(16) + "2");
        x.tear(0);
        x.tear(1);
        x.tear(2);
        due(x.restore(1), NOT, "restore(1) of three");
        due(x.count(3), 3, "count(3)");
        due(x.restore(2), UNKNOWN, "restore(2)");
        due(x.restore(-1), UNKNOWN, "restore(-1)");
        restoreLikeBlocks();
    }

    /** Two BLOCKS with the same SIGNS but numbers of their own are unlike ones. */
    private static void restoreLikeBlocks() {
        SignCellar x = with("1212");
        x.tear(0);
        version(x, "1212");
        x.restore(0);
        version(x, "0".repeat(16) + "1213");
        x.tear(0);
        x.change(2, 19, 2);
        dueRow(x, 3, 2, 1);
        x.restore(0);
        for (int i = 0; i < 12; i++) {
            x.strike(3 + i, 0);
        }
        int v = x.change(x.change(x.change(x.change(15, 0, 1), 1, 2), 2, 1), 3, 2);
        dueRow(x, v, 0, 1);
        due(x.share(0, 1), 0, "share(0, 1)");
        due(x.send(0, 1, 0), 19, "send(0, 1, 0)");
        x.tear(0);
        x.tear(1);
        due(x.restore(v), 2, "restore(v)");
        dueText(x, v, "12121212");
    }

    private static void send() {
        promise = 27;
        SignCellar x = with("0".repeat(32) + "1".repeat(16) + "2");
        version(x, "3".repeat(32) + "1".repeat(16) + "2" + "2");
        due(x.send(0, 1, 0), 67 + 4 + 4 + 11, "send(0, 1, 0)");
        due(x.send(0, 1, 1), 2, "send(0, 1, 1)");
        due(x.send(0, 1, 2), 6, "send(0, 1, 2)");
        due(x.send(1, 0, 0), 67 + 4 + 4 + 7, "send(1, 0, 0)");
        due(x.send(1, 1, 2), 0, "send(1, 1, 2)");
        SignCellar eight = eightBlocks();
        due(eight.send(18, 18, 2), 0, "send(18, 18, 2)");
        due(eight.send(18, 17, 2), 3, "send(18, 17, 2)");
        due(eight.send(0, 18, 2), 6, "send(0, 18, 2)");
        due(eight.send(0, 18, 1), 4, "send(0, 18, 1)");
        due(x.send(0, 1, 3), OUTSIDE, "send(0, 1, 3)");
        due(x.send(0, 1, -1), OUTSIDE, "send(0, 1, -1)");
        due(x.send(0, 2, 3), UNKNOWN, "send(0, 2, 3)");
        due(x.send(-1, 0, 0), UNKNOWN, "send(-1, 0, 0)");
        x.tear(0);
        due(x.send(1, 0, 0), 67 + 4 + 4 + 7, "send(1, 0, 0) of TORN ones");
    }

    private static void waysAndBound() {
        promise = 28;
        SignCellar x = with("0123456789abcdef");
        due(x.ways(0), 20922789888000L, "ways(0)");
        version(x, "0000");
        due(x.ways(1), 1, "ways(1)");
        version(x, "0123");
        due(x.ways(2), 24, "ways(2)");
        int v = 0;
        for (int i = 0; i < 4; i++) {
            v = x.put(v, 0, i);
        }
        int twenty = x.block(v, 0);
        due(x.ways(twenty), 2432902008176640000L / 16, "ways of 20");
        int more = x.block(x.put(v, 0, 0), 0);
        due(x.ways(more), NOT, "ways of 21");
        due(x.ways(99), UNKNOWN, "ways(99)");
        due(x.ways(-1), UNKNOWN, "ways(-1)");
        promise = 29;
        due(x.bound(0), 45, "bound(0)");
        due(x.bound(1), 0, "bound(1)");
        due(x.bound(2), 5, "bound(2)");
        version(x, "01");
        due(x.bound(x.count(2) - 1), 1, "bound of 2");
        version(x, "0001");
        due(x.bound(x.count(2) - 1), 2, "bound of 4");
        due(x.bound(twenty), 58, "bound of 20");
        due(x.bound(more), NOT, "bound of 21");
        due(x.bound(99), UNKNOWN, "bound(99)");
        x.tear(more);
        x.tear(2);
        due(x.ways(2), TORN, "ways(2)");
        due(x.ways(more), NOT, "ways of 21 ahead of TORN");
        due(x.bound(2), TORN, "bound(2)");
        due(x.bound(more), NOT, "bound of 21 ahead of TORN");
    }

    private static void entropy() {
        promise = 30;
        SignCellar x = with("0123012f");
        int[] want = {2, 2, 2, 1, 0};
        for (int k = 0; k < 5; k++) {
            due(x.entropy(0, k), want[k], "entropy(0, " + k + ")");
        }
        due(x.entropy(0, 15), 1, "entropy(0, 15)");
        due(x.entropy(0, NONE), 8, "entropy(0, NONE)");
        due(x.entropy(0, 16), OUTSIDE, "entropy(0, 16)");
        due(x.entropy(0, -2), OUTSIDE, "entropy(0, -2)");
        due(x.entropy(1, 16), UNKNOWN, "entropy(1, 16)");
        x.tear(0);
        due(x.entropy(0, 0), TORN, "entropy(0, 0)");
        due(x.entropy(0, NONE), TORN, "entropy(0, NONE)");
        due(x.entropy(0, 16), OUTSIDE, "entropy(0, 16) ahead of TORN");
    }

    public static void main(String[] args) {
        newObject();
        feed();
        make();
        change();
        put();
        strike();
        about();
        block();
        open();
        told();
        count();
        share();
        size();
        time();
        cut();
        rule();
        bit();
        turned();
        best();
        sign();
        clear();
        seek();
        span();
        tear();
        sums();
        restore();
        send();
        waysAndBound();
        entropy();
        System.out.println(asked + " answers, " + wrong + " not as due");
        if (wrong != 0) {
            System.exit(1);
        }
    }
}
