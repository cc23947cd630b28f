import java.util.ArrayList;
import java.util.HashMap;
import java.util.List;
import java.util.Map;
import java.util.Set;

/** Each call with all numbers at and over each edge of its arguments, in five states, against the plain model. */
public final class SweepTest extends EdgeKit {
    private static final String SIX = "0123456789abcdef" + "0000000000000000" + "0101010101010101" + "0000000000000000" + "fedcba9876543210"
        + "3330333033303331";
    private static final int[] SIGN = {LOW, -2, -1, 0, 1, 14, 15, 16, 17, HIGH};
    private static final int[] WHAT = {LOW, -3, -2, -1, 0, 1, 2, 3, 4, 5, 6, 7, 8, HIGH};
    private static final int[] RULE_WHAT = {LOW, -1, 0, 1, 2, 3, 4, 5, 9, 10, 11, 12, 22, 33, 34, HIGH};
    private static final int[] PLACE = {LOW, -1, 0, 1, 11, 12, 15, 16, 17, 24, 25, 31, 32, 33, 48, 49, 95, 96, 97, 121, 122, 123, HIGH};
    private static final int[] INDEX = {LOW, -3, -2, -1, 0, 1, 2, 3, 5, 6, 7, 8, 9, 11, 12, 23, 24, 25, HIGH};
    private static final int[] TIME = {LOW, -1, 0, 1, 33, 96, 97, 122, 160, 9999, 10000, HIGH};
    private static final int[] SUM = {LOW, -1, 0, 1, 15, 16, 22, 23, 24, HIGH};
    private static final int[] SET = {LOW, -1, 0, 1, 2, 65534, 65535, 65536, HIGH};
    private static final int[] MANY = {LOW, -1, 0, 1, 2, 14, 15, 16, HIGH};

    private static long askModel(PlainModel m, String name, long... a) {
        int p = a.length > 0 ? (int) a[0] : 0;
        int q = a.length > 1 ? (int) a[1] : 0;
        int r = a.length > 2 ? (int) a[2] : 0;
        switch (name) {
            case "feed": return m.feed(p, a[1]);
            case "make": return m.make();
            case "change": return m.edit(0, p, q, r);
            case "put": return m.edit(1, p, q, r);
            case "strike": return m.edit(2, p, q, 0);
            case "about": return m.about(p, q);
            case "block": return m.block(p, q);
            case "open": return m.open(p, q);
            case "told": return m.told(p, q);
            case "count": return m.count(p);
            case "share": return m.share(p, q);
            case "size": return m.weight(0, p, q);
            case "time": return m.weight(1, p, q);
            case "cut": return m.cut(p, q);
            case "rule": return m.rule(p, q, r);
            case "bit": return m.bit(p, q);
            case "turned": return m.turned(p, q, r);
            case "best": return m.best(p, q, r);
            case "sign": return m.sign(p);
            case "clear": return m.clear();
            case "seek": return m.seek(p, q, r);
            case "span": return m.span(p, q, r, (int) a[3]);
            case "tear": return m.tear(p);
            case "sums": return m.sums(p, q, r);
            case "restore": return m.restore(p);
            case "send": return m.send(p, q, r);
            case "ways": return m.ways(p);
            case "bound": return m.bound(p);
            case "entropy": return m.entropy(p, q);
            default: throw new IllegalArgumentException(name);
        }
    }

    // ---- the states

    private static void row(List<String> state, String hex) {
        for (int i = 0; i < hex.length(); i += 15) {
            String part = hex.substring(i, Math.min(hex.length(), i + 15));
            state.add("feed " + part.length() + " 0x" + part);
        }
        state.add("make");
    }

    /** Six BLOCKS, a VERSION without any, one of three, THE DRAFT and THE PATTERN begun. */
    private static List<String> ordinary() {
        List<String> state = new ArrayList<>();
        row(state, SIX);
        row(state, "7");
        state.add("strike 1 0");
        row(state, "0".repeat(32) + "12");
        state.add("sign 3");
        state.add("sign 2");
        state.add("feed 2 0x12");
        return state;
    }

    /** Eight BLOCKS in VERSION 26, one of them of 24 SIGNS. */
    private static List<String> eight() {
        List<String> state = new ArrayList<>();
        row(state, SIX);
        for (int v = 0; v < 26; v++) {
            state.add("put " + v + " " + (v < 9 ? "0 10" : v < 18 ? 96 + v + " 11" : "25 12"));
        }
        return state;
    }

    private static List<String> with(List<String> state, String... more) {
        List<String> all = new ArrayList<>(state);
        all.addAll(List.of(more));
        return all;
    }

    /** 30 VERSIONS, THE DRAFT and THE PATTERN full. */
    private static List<String> full() {
        List<String> state = with(eight(), "tear 0", "strike 26 121", "strike 27 120", "strike 28 119");
        row(state, "7".repeat(96));
        for (int i = 1; i <= 12; i++) {
            state.add("sign 65535");
        }
        return state;
    }

    // ---- the sweep

    private static SignCellar cellar;
    private static PlainModel model;
    private static int used = 0;
    private static final Map<String, Set<String>> NAMED = refusals();

    private static void enter(List<String> state) {
        cellar = new SignCellar();
        model = new PlainModel();
        for (String call : state) {
            String name = call.split(" ")[0];
            long[] a = numbers(call);
            same(call, ask(cellar, name, a), askModel(model, name, a));
        }
        used = state.size();
    }

    private static boolean changes(String name) {
        return List.of("feed", "make", "change", "put", "strike", "sign", "clear", "tear", "restore").contains(name);
    }

    private static Map<String, Set<String>> refusals() {
        Map<String, Set<String>> all = new HashMap<>();
        for (int promise = 1; promise <= PROMISES; promise++) {
            all.put(nameOf(promise), refusalsOf(promise));
        }
        return all;
    }

    /** A call answers no refusal that its promise does not name. */
    private static void named(String name, long answer) {
        String refusal = refusalNamed(answer);
        if (!refusal.isEmpty() && !NAMED.getOrDefault(name, Set.of()).contains(refusal)) {
            fault(name + " answered " + refusal + ", which its promise does not name");
        }
    }

    private static void compare(List<String> state, String name, long... a) {
        if (changes(name) || used >= 512) {
            enter(state);
        }
        used++;
        long answer = ask(cellar, name, a);
        same(PlainModel.shown(name, a), answer, askModel(model, name, a));
        named(name, answer);
        for (int what = 0; what < 7 && changes(name); what++) {
            same("then count " + what, cellar.count(what), model.count(what));
        }
    }

    /** All rows of numbers, one of each list. */
    private static void sweep(List<String> state, String name, int[]... lists) {
        enter(state);
        int all = 1;
        for (int[] list : lists) {
            all *= list.length;
        }
        for (int n = 0; n < all; n++) {
            long[] a = new long[lists.length];
            int left = n;
            for (int j = 0; j < a.length; j++) {
                a[j] = lists[j][left % lists[j].length];
                left /= lists[j].length;
            }
            compare(state, name, a);
        }
    }

    private static int[] around(int count) {
        return new int[] {LOW, -1, 0, 1, 2, 3, count - 2, count - 1, count, count + 1, HIGH};
    }

    private static void sweepAll(String what, List<String> state) {
        says(0, "REFUSALS, of several the first in this order");
        enter(state);
        int[] v = around(model.versions.size());
        int[] b = around(model.blocks.size());
        sweep(state, "feed", MANY, new int[] {0, -1, 0x7654321});
        sweep(state, "make");
        sweep(state, "change", v, PLACE, SIGN);
        sweep(state, "put", v, PLACE, SIGN);
        sweep(state, "strike", v, PLACE);
        sweep(state, "about", v, WHAT);
        sweep(state, "block", v, INDEX);
        sweep(state, "open", v, PLACE);
        sweep(state, "told", b, WHAT);
        sweep(state, "count", WHAT);
        sweep(state, "share", v, v);
        sweep(state, "size", b, WHAT);
        sweep(state, "time", b, WHAT);
        sweep(state, "cut", b, INDEX);
        sweep(state, "rule", b, RULE_WHAT, INDEX);
        sweep(state, "bit", b, PLACE);
        sweep(state, "turned", b, WHAT, INDEX);
        sweep(state, "best", v, TIME, new int[] {LOW, -3, -2, -1, 0, 5, 6, 7, 8, HIGH});
        sweep(state, "sign", SET);
        sweep(state, "clear");
        sweep(state, "seek", v, WHAT, INDEX);
        sweep(state, "span", new int[] {-1, 0, model.versions.size() - 1, model.versions.size()}, PLACE, PLACE, WHAT);
        sweep(state, "tear", b);
        sweep(state, "sums", v, WHAT, SUM);
        sweep(state, "restore", v);
        sweep(state, "send", v, v, WHAT);
        sweep(state, "ways", b);
        sweep(state, "bound", b);
        sweep(state, "entropy", b, SIGN);
        System.out.println("swept: " + what);
    }

    public static void main(String[] args) {
        sweepAll("a new object", new ArrayList<>());
        sweepAll("some versions", ordinary());
        sweepAll("torn blocks", with(ordinary(), "tear 0", "tear 1", "tear 6"));
        sweepAll("eight blocks", eight());
        sweepAll("all full", full());
        end(0, 0);
    }
}
