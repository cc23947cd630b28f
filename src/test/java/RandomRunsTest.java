import java.util.ArrayList;
import java.util.List;
import java.util.Random;

/** Many runs of 512 calls, by a told seed, on the class and on the plain model: each answer has to be the same. */
public final class RandomRunsTest {
    private static final int RUNS = 400;
    private static final int CALLS = 512;
    private static int wrong = 0;

    private final Random random;
    private final SignCellar cellar = new SignCellar();
    private final PlainModel model = new PlainModel();
    private final List<String> past = new ArrayList<>();
    /** How many unlike SIGNS there mostly are, and how often rows are made and changed, asked, torn. */
    private final int signs;
    private final int makes;
    private final int tears;

    private RandomRunsTest(long seed) {
        random = new Random(seed);
        signs = new int[] {1, 2, 3, 4, 6, 16}[random.nextInt(6)];
        makes = new int[] {3, 10, 30}[random.nextInt(3)];
        tears = new int[] {0, 1, 6}[random.nextInt(3)];
    }

    private void same(long got, long want, String name, long... args) {
        String shown = PlainModel.shown(name, args);
        past.add(shown + " = " + want);
        if (got != want) {
            wrong++;
            if (wrong < 6) {
                System.out.println(String.join("\n", past));
                System.out.println(shown + " answered " + got + ", due is " + want);
            }
        }
    }

    private int below(int n) {
        return random.nextInt(Math.max(1, n));
    }

    /** Mostly a number that there is; at times one at or over an edge. */
    private int near(int n) {
        switch (below(24)) {
            case 0: return -1;
            case 1: return n;
            case 2: return new int[] {-2, -3, n + 1, Integer.MIN_VALUE, Integer.MAX_VALUE, 16, 4096}[below(7)];
            default: return below(n);
        }
    }

    private int version() {
        return near(model.versions.size());
    }

    private int block() {
        return near(model.blocks.size());
    }

    private int place(int v) {
        return near(v >= 0 && v < model.versions.size() ? model.text(v).size() : 3);
    }

    private int aSign() {
        return below(20) == 0 ? near(16) : below(signs);
    }

    private void feed() {
        int n = below(30) == 0 ? near(16) : 1 + below(15);
        long row = 0;
        int period = 1 + below(9);
        int[] cycle = new int[16];
        for (int i = 0; i < 16; i++) {
            cycle[i] = i >= period && below(8) > 0 ? cycle[i - period] : below(signs);
            row = row << 4 | cycle[i];
        }
        same(cellar.feed(n, row), model.feed(n, row), "feed", n, row);
    }

    private void drafts() {
        int v = version();
        int place = place(v);
        int sign = aSign();
        switch (below(9)) {
            case 0: case 1: case 2: feed(); break;
            case 3:
                for (int i = below(7); i > 0; i--) {
                    feed();
                }
                break;
            case 4: same(cellar.make(), model.make(), "make"); break;
            case 5: same(cellar.change(v, place, sign), model.edit(0, v, place, sign), "change", v, place, sign); break;
            case 6: case 7: same(cellar.put(v, place, sign), model.edit(1, v, place, sign), "put", v, place, sign); break;
            default: same(cellar.strike(v, place), model.edit(2, v, place, 0), "strike", v, place); break;
        }
    }

    private void asked() {
        int v = version();
        int w = version();
        int b = block();
        int place = place(v);
        int to = place(v);
        switch (below(25)) {
            case 0: { int what = near(5); same(cellar.about(v, what), model.about(v, what), "about", v, what); break; }
            case 1: { int i = near(6); same(cellar.block(v, i), model.block(v, i), "block", v, i); break; }
            case 2: same(cellar.open(v, place), model.open(v, place), "open", v, place); break;
            case 3: { int what = near(3); same(cellar.told(b, what), model.told(b, what), "told", b, what); break; }
            case 4: { int what = near(7); same(cellar.count(what), model.count(what), "count", what); break; }
            case 5: same(cellar.share(v, w), model.share(v, w), "share", v, w); break;
            case 6: { int kind = near(5); same(cellar.size(b, kind), model.weight(0, b, kind), "size", b, kind); break; }
            case 7: { int kind = near(5); same(cellar.time(b, kind), model.weight(1, b, kind), "time", b, kind); break; }
            case 8: { int i = near(12); same(cellar.cut(b, i), model.cut(b, i), "cut", b, i); break; }
            case 9: case 10: {
                int what = below(2) == 0 ? near(5) : 10 + near(5);
                int i = near(8);
                same(cellar.rule(b, what, i), model.rule(b, what, i), "rule", b, what, i);
                break;
            }
            case 11: { int i = near(110); same(cellar.bit(b, i), model.bit(b, i), "bit", b, i); break; }
            case 12: {
                int what = near(3);
                int i = near(24);
                same(cellar.turned(b, what, i), model.turned(b, what, i), "turned", b, what, i);
                break;
            }
            case 13: case 14: {
                int t = below(10) == 0 ? near(10000) : below(700);
                int i = near(9) - 2;
                same(cellar.best(v, t, i), model.best(v, t, i), "best", v, t, i);
                break;
            }
            case 15: {
                int set = below(10) == 0 ? near(65536) : 1 + below(1 << signs) % 65535;
                same(cellar.sign(set), model.sign(set), "sign", set);
                break;
            }
            case 16: if (below(4) == 0) { same(cellar.clear(), model.clear(), "clear"); } break;
            case 17: case 18: {
                int k = near(4);
                int i = near(20) - 1;
                same(cellar.seek(v, k, i), model.seek(v, k, i), "seek", v, k, i);
                break;
            }
            case 19: {
                int what = near(4);
                int a = below(9) == 0 ? place : Math.min(place, to);
                int z = below(9) == 0 ? to : Math.max(place, to);
                same(cellar.span(v, a, z, what), model.span(v, a, z, what), "span", v, a, z, what);
                break;
            }
            case 20: { int what = near(2); int k = near(24); same(cellar.sums(v, what, k), model.sums(v, what, k), "sums", v, what, k); break; }
            case 21: { int what = near(3); same(cellar.send(v, w, what), model.send(v, w, what), "send", v, w, what); break; }
            case 22: same(cellar.ways(b), model.ways(b), "ways", b); break;
            case 23: same(cellar.bound(b), model.bound(b), "bound", b); break;
            default: { int k = near(16); same(cellar.entropy(b, k), model.entropy(b, k), "entropy", b, k); break; }
        }
    }

    /** A row of eight BLOCKS, the most there can be, by 96 SIGNS and nine puts each into the first and the last BLOCK. */
    private void grow() {
        while (model.draft.size() < 96) {
            feed();
        }
        same(cellar.make(), model.make(), "make");
        for (int i = 0; i < 18; i++) {
            int v = model.versions.size() - 1;
            int place = i < 9 ? 0 : model.text(v).size();
            int sign = below(signs);
            same(cellar.put(v, place, sign), model.edit(1, v, place, sign), "put", v, place, sign);
        }
    }

    private void run() {
        if (below(4) == 0) {
            grow();
        }
        while (past.size() < CALLS) {
            int mood = below(100);
            if (mood < makes || model.versions.isEmpty()) {
                drafts();
            } else if (mood < makes + tears) {
                int b = block();
                same(cellar.tear(b), model.tear(b), "tear", b);
            } else if (mood < makes + 2 * tears || below(99) == 0) {
                int v = version();
                same(cellar.restore(v), model.restore(v), "restore", v);
            } else {
                asked();
            }
        }
    }

    public static void main(String[] args) {
        for (int seed = 1; seed <= RUNS; seed++) {
            new RandomRunsTest(seed).run();
        }
        System.out.println(RUNS + " runs, " + wrong + " answers are not as due");
        if (wrong != 0) {
            System.exit(1);
        }
    }
}
