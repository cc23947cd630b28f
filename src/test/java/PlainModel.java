import java.math.BigInteger;
import java.util.ArrayList;
import java.util.Arrays;
import java.util.Collections;
import java.util.HashMap;
import java.util.HashSet;
import java.util.LinkedHashMap;
import java.util.List;
import java.util.Map;
import java.util.TreeMap;

/** The document told again in the plainest way, by trying all there is: slow, and written without a look at the class. */
final class PlainModel {
    static final int NONE = -1, UNKNOWN = -100001, OUTSIDE = -100002, NOT = -100003, FULL = -100004, TORN = -100005;

    static final class Made {
        List<Integer> row = new ArrayList<>();
        int parent;
        int fresh;
    }

    final List<Integer> draft = new ArrayList<>();
    final List<Integer> pattern = new ArrayList<>();
    final List<List<Integer>> blocks = new ArrayList<>();
    final List<Boolean> torn = new ArrayList<>();
    final List<Made> versions = new ArrayList<>();

    boolean noVersion(int v) {
        return v < 0 || v >= versions.size();
    }

    boolean noBlock(int b) {
        return b < 0 || b >= blocks.size();
    }

    List<Integer> text(int v) {
        List<Integer> all = new ArrayList<>();
        for (int b : versions.get(v).row) {
            all.addAll(blocks.get(b));
        }
        return all;
    }

    boolean anyTorn(int v) {
        return versions.get(v).row.stream().anyMatch(torn::get);
    }

    // ---- drafts, versions

    int feed(int n, long signs) {
        if (n < 1 || n > 15) {
            return OUTSIDE;
        }
        if (draft.size() + n > 96) {
            return FULL;
        }
        String hex = String.format("%016x", signs);
        for (char c : hex.substring(16 - n).toCharArray()) {
            draft.add(Character.digit(c, 16));
        }
        return draft.size();
    }

    int take(List<Integer> signs, Made into) {
        for (int b = 0; b < blocks.size(); b++) {
            if (!torn.get(b) && blocks.get(b).equals(signs)) {
                return b;
            }
        }
        blocks.add(new ArrayList<>(signs));
        torn.add(false);
        into.fresh++;
        return blocks.size() - 1;
    }

    int make() {
        if (draft.isEmpty()) {
            return NOT;
        }
        int needed = (int) Math.ceil(draft.size() / 16.0);
        if (versions.size() == 30 || blocks.size() + needed > 200) {
            return FULL;
        }
        Made made = new Made();
        made.parent = NONE;
        while (!draft.isEmpty()) {
            List<Integer> head = draft.subList(0, Math.min(16, draft.size()));
            made.row.add(take(head, made));
            head.clear();
        }
        versions.add(made);
        return versions.size() - 1;
    }

    /** How: 0 changed, 1 put, 2 struck. */
    int edit(int how, int v, int place, int sign) {
        if (noVersion(v)) {
            return UNKNOWN;
        }
        Made old = versions.get(v);
        int signs = text(v).size();
        if (place < 0 || place >= signs + (how == 1 ? 1 : 0)) {
            return UNKNOWN;
        }
        if (how != 2 && (sign < 0 || sign > 15)) {
            return OUTSIDE;
        }
        int index = 0;
        int offset = place;
        while (index + 1 < old.row.size() && offset >= blocks.get(old.row.get(index)).size()) {
            offset -= blocks.get(old.row.get(index)).size();
            index++;
        }
        List<Integer> anew = old.row.isEmpty() ? new ArrayList<>() : new ArrayList<>(blocks.get(old.row.get(index)));
        if (how == 0) {
            anew.set(offset, sign);
        } else if (how == 1) {
            anew.add(offset, sign);
        } else {
            anew.remove(offset);
        }
        List<List<Integer>> parts = new ArrayList<>();
        if (anew.size() == 25) {
            parts.add(anew.subList(0, 12));
            parts.add(anew.subList(12, 25));
        } else if (!anew.isEmpty()) {
            parts.add(anew);
        }
        int rowLength = old.row.size() + parts.size() - (old.row.isEmpty() ? 0 : 1);
        if (versions.size() == 30 || rowLength > 8 || blocks.size() + parts.size() > 200) {
            return FULL;
        }
        if (anyTorn(v)) {
            return TORN;
        }
        Made made = new Made();
        made.parent = v;
        made.row.addAll(old.row);
        if (!old.row.isEmpty()) {
            made.row.remove(index);
        }
        for (List<Integer> part : parts) {
            made.row.add(index++, take(part, made));
        }
        versions.add(made);
        return versions.size() - 1;
    }

    int about(int v, int what) {
        if (noVersion(v)) {
            return UNKNOWN;
        }
        Made m = versions.get(v);
        int tornOnes = (int) m.row.stream().filter(torn::get).count();
        int[] answers = {text(v).size(), m.row.size(), m.parent, m.fresh, tornOnes};
        return what < 0 || what >= answers.length ? OUTSIDE : answers[what];
    }

    int block(int v, int i) {
        if (noVersion(v)) {
            return UNKNOWN;
        }
        List<Integer> row = versions.get(v).row;
        return i < 0 || i >= row.size() ? NONE : row.get(i);
    }

    int open(int v, int place) {
        if (noVersion(v) || place < 0 || place >= text(v).size()) {
            return UNKNOWN;
        }
        return tornAt(v, place) ? TORN : text(v).get(place);
    }

    boolean tornAt(int v, int place) {
        List<Boolean> each = new ArrayList<>();
        for (int b : versions.get(v).row) {
            each.addAll(Collections.nCopies(blocks.get(b).size(), torn.get(b)));
        }
        return each.get(place);
    }

    int told(int b, int what) {
        if (noBlock(b)) {
            return UNKNOWN;
        }
        int in = (int) versions.stream().filter(m -> m.row.contains(b)).count();
        int[] answers = {blocks.get(b).size(), torn.get(b) ? 1 : 0, in};
        return what < 0 || what >= answers.length ? OUTSIDE : answers[what];
    }

    int count(int what) {
        int ofVersions = 0;
        for (int v = 0; v < versions.size(); v++) {
            ofVersions += text(v).size();
        }
        int[] answers = {draft.size(), versions.size(), blocks.size(), Collections.frequency(torn, true), pattern.size(),
            blocks.stream().mapToInt(List::size).sum(), ofVersions};
        return what < 0 || what >= answers.length ? OUTSIDE : answers[what];
    }

    int share(int v, int w) {
        if (noVersion(v) || noVersion(w)) {
            return UNKNOWN;
        }
        HashSet<Integer> both = new HashSet<>(versions.get(v).row);
        both.retainAll(versions.get(w).row);
        return both.size();
    }

    // ---- squeezing

    static final class Cuts {
        int price;
        List<int[]> pieces = new ArrayList<>();
    }

    static boolean isMate(List<Integer> s, int p, int length, int back) {
        if (p + length > s.size() || back > p) {
            return false;
        }
        for (int j = 0; j < length; j++) {
            if (!s.get(p + j).equals(s.get(p + j - back))) {
                return false;
            }
        }
        return true;
    }

    /** Of two rows of pieces of one price, which is first; a piece is its length (1: alone) and how far back. */
    static boolean first(Cuts a, Cuts b) {
        for (int i = 0; i < Math.min(a.pieces.size(), b.pieces.size()); i++) {
            int[] x = a.pieces.get(i);
            int[] y = b.pieces.get(i);
            if (x[0] != y[0]) {
                return x[0] < y[0];
            }
            if (x[1] != y[1]) {
                return x[1] < y[1];
            }
        }
        return false;
    }

    static Cuts cutsFrom(List<Integer> s, int p, Cuts[] known) {
        if (known[p] != null) {
            return known[p];
        }
        Cuts best = null;
        if (p == s.size()) {
            best = new Cuts();
        } else {
            for (int length = 9; length >= 1; length--) {
                for (int back = 15; back >= (length == 1 ? 15 : 1); back--) {
                    if (length > 1 && !isMate(s, p, length, back)) {
                        continue;
                    }
                    Cuts rest = cutsFrom(s, p + length, known);
                    Cuts c = new Cuts();
                    c.price = rest.price + (length == 1 ? 5 : 11);
                    c.pieces.add(new int[] {length, length == 1 ? 0 : back});
                    c.pieces.addAll(rest.pieces);
                    if (best == null || c.price < best.price || (c.price == best.price && first(c, best))) {
                        best = c;
                    }
                }
            }
        }
        known[p] = best;
        return best;
    }

    static Cuts cuts(List<Integer> s) {
        return cutsFrom(s, 0, new Cuts[s.size() + 10]);
    }

    static final class Grammar {
        List<Integer> row;
        TreeMap<Integer, List<Integer>> rules = new TreeMap<>();
        int ahead;
    }

    static List<Integer> with(List<Integer> row, List<Integer> what, List<Integer> by) {
        List<Integer> out = new ArrayList<>();
        int i = 0;
        while (i < row.size()) {
            if (i + what.size() <= row.size() && row.subList(i, i + what.size()).equals(what)) {
                out.addAll(by);
                i += what.size();
            } else {
                out.add(row.get(i++));
            }
        }
        return out;
    }

    static Grammar grammar(List<Integer> s) {
        Grammar g = new Grammar();
        g.row = new ArrayList<>(s);
        while (true) {
            List<Integer> chosen = null;
            int most = 1;
            for (int a = 0; a < 16 + g.ahead; a++) {
                for (int b = 0; b < 16 + g.ahead; b++) {
                    List<Integer> pair = List.of(a, b);
                    int times = g.row.size() - with(g.row, pair, List.of(99)).size();
                    if (times > most) {
                        most = times;
                        chosen = pair;
                    }
                }
            }
            if (chosen == null) {
                break;
            }
            g.row = with(g.row, chosen, List.of(16 + g.ahead));
            g.rules.put(g.ahead++, chosen);
        }
        for (int k = g.ahead - 1; k >= 0; k--) {
            int stands = Collections.frequency(g.row, 16 + k);
            for (List<Integer> r : g.rules.values()) {
                stands += Collections.frequency(r, 16 + k);
            }
            if (stands < 2) {
                List<Integer> back = g.rules.remove(k);
                g.row = with(g.row, List.of(16 + k), back);
                for (Map.Entry<Integer, List<Integer>> e : g.rules.entrySet()) {
                    e.setValue(with(e.getValue(), List.of(16 + k), back));
                }
            }
        }
        return g;
    }

    static List<Integer> bits(List<Integer> s) {
        StringBuilder out = new StringBuilder();
        Map<List<Integer>, Integer> stood = new HashMap<>();
        long low = 0;
        long high = 65535;
        int off = 0;
        for (int i = 0; i < s.size(); i++) {
            int ahead = i == 0 ? 77 : s.get(i - 1);
            long c = 0;
            long t = 0;
            for (int x = 0; x < 16; x++) {
                long o = 1 + stood.getOrDefault(List.of(ahead, x), 0);
                t += o;
                c += x < s.get(i) ? o : 0;
            }
            long o = 1 + stood.getOrDefault(List.of(ahead, s.get(i)), 0);
            stood.merge(List.of(ahead, s.get(i)), 1, Integer::sum);
            long r = high - low + 1;
            high = low + r * (c + o) / t - 1;
            low = low + r * c / t;
            while (true) {
                if (high < 32768) {
                    out.append("0").append("1".repeat(off));
                    off = 0;
                } else if (low >= 32768) {
                    out.append("1").append("0".repeat(off));
                    off = 0;
                    low -= 32768;
                    high -= 32768;
                } else if (low >= 16384 && high < 49152) {
                    off++;
                    low -= 16384;
                    high -= 16384;
                } else {
                    break;
                }
                low *= 2;
                high = high * 2 + 1;
            }
        }
        off++;
        out.append(low < 16384 ? "0" + "1".repeat(off) : "1" + "0".repeat(off));
        List<Integer> bits = new ArrayList<>();
        for (char b : out.toString().toCharArray()) {
            bits.add(b - '0');
        }
        return bits;
    }

    static final class Turned {
        int end;
        List<Integer> signs = new ArrayList<>();
        List<Integer> places = new ArrayList<>();
        int price = 5;
    }

    static Turned turned(List<Integer> s) {
        StringBuilder text = new StringBuilder();
        for (int x : s) {
            text.append((char) ('b' + x));
        }
        text.append('a');
        List<String> all = new ArrayList<>();
        for (int i = 0; i < text.length(); i++) {
            all.add(text.substring(i) + text.substring(0, i));
        }
        Collections.sort(all);
        Turned t = new Turned();
        List<Integer> front = new ArrayList<>();
        for (int x = 0; x < 16; x++) {
            front.add(x);
        }
        for (int i = 0; i < all.size(); i++) {
            int last = all.get(i).charAt(all.get(i).length() - 1) - 'b';
            if (last < 0) {
                t.end = i;
                continue;
            }
            t.signs.add(last);
            int place = front.indexOf(last);
            t.places.add(place);
            front.remove(place);
            front.add(0, last);
            t.price++;
            for (int x = place + 1; x > 1; x /= 2) {
                t.price += 2;
            }
        }
        return t;
    }

    /** SIZE and TIME by all KINDS, kept by SIGNS as they are asked again and again. */
    static final Map<List<Integer>, int[][]> WEIGHTS = new LinkedHashMap<>();

    static int[][] weights(List<Integer> s) {
        return WEIGHTS.computeIfAbsent(new ArrayList<>(s), PlainModel::weigh);
    }

    private static int[][] weigh(List<Integer> s) {
        int n = s.size();
        Cuts c = cuts(s);
        Grammar g = grammar(s);
        int ruled = 5 * g.row.size();
        for (List<Integer> r : g.rules.values()) {
            ruled += 5 * r.size() + 1;
        }
        return new int[][] {
            {4 * n, c.price, ruled, bits(s).size(), turned(s).price},
            {n, c.pieces.size() + n, 2 * n + g.rules.size(), 6 * n, 3 * n}};
    }

    int weight(int which, int b, int kind) {
        if (noBlock(b)) {
            return UNKNOWN;
        }
        if (kind < 0 || kind > 4) {
            return OUTSIDE;
        }
        return torn.get(b) ? TORN : weights(blocks.get(b))[which][kind];
    }

    static int ith(List<Integer> row, int i) {
        return i < 0 || i >= row.size() ? NONE : row.get(i);
    }

    int cut(int b, int i) {
        if (noBlock(b)) {
            return UNKNOWN;
        }
        if (torn.get(b)) {
            return TORN;
        }
        List<Integer> told = new ArrayList<>();
        for (int[] p : cuts(blocks.get(b)).pieces) {
            told.add(p[0] == 1 ? 0 : 16 * p[0] + p[1]);
        }
        return i == NONE ? told.size() : ith(told, i);
    }

    int rule(int b, int what, int i) {
        if (noBlock(b)) {
            return UNKNOWN;
        }
        if (what < 0 || (what >= 5 && what <= 9)) {
            return OUTSIDE;
        }
        if (torn.get(b)) {
            return TORN;
        }
        Grammar g = grammar(blocks.get(b));
        switch (what) {
            case 0: return g.row.size();
            case 1: return g.rules.size();
            case 2: return g.ahead;
            case 3: return ith(g.row, i);
            case 4: return i < 0 || i >= g.ahead ? NONE : g.rules.containsKey(i) ? g.rules.get(i).size() : 0;
            default: return g.rules.containsKey(i) ? ith(g.rules.get(i), what - 10) : NONE;
        }
    }

    int bit(int b, int i) {
        return noBlock(b) ? UNKNOWN : torn.get(b) ? TORN : ith(bits(blocks.get(b)), i);
    }

    int turned(int b, int what, int i) {
        if (noBlock(b)) {
            return UNKNOWN;
        }
        if (what < 0 || what > 2) {
            return OUTSIDE;
        }
        if (torn.get(b)) {
            return TORN;
        }
        Turned t = turned(blocks.get(b));
        return what == 0 ? t.end : ith(what == 1 ? t.signs : t.places, i);
    }

    int best(int v, int t, int i) {
        if (noVersion(v)) {
            return UNKNOWN;
        }
        if (t < 0 || t > 9999 || i < -2) {
            return OUTSIDE;
        }
        if (anyTorn(v)) {
            return TORN;
        }
        List<Integer> row = versions.get(v).row;
        int n = row.size();
        int[][] sizes = new int[n][];
        int[][] times = new int[n][];
        for (int j = 0; j < n; j++) {
            sizes[j] = weights(blocks.get(row.get(j)))[0];
            times[j] = weights(blocks.get(row.get(j)))[1];
        }
        int[] found = {Integer.MAX_VALUE, 0};
        int[] kinds = new int[n];
        tryAll(sizes, times, new int[n], 0, 0, 0, t, found, kinds);
        if (found[0] == Integer.MAX_VALUE) {
            return NOT;
        }
        return i == NONE ? found[0] : i == -2 ? found[1] : i < n ? kinds[i] : NONE;
    }

    private static void tryAll(int[][] sizes, int[][] times, int[] now, int at, int size, int time, int t, int[] found, int[] kinds) {
        if (time > t || size >= found[0]) {
            return;
        }
        if (at == now.length) {
            found[0] = size;
            found[1] = time;
            System.arraycopy(now, 0, kinds, 0, now.length);
            return;
        }
        for (int kind = 0; kind < 5; kind++) {
            now[at] = kind;
            tryAll(sizes, times, now, at + 1, size + sizes[at][kind], time + times[at][kind], t, found, kinds);
        }
    }

    // ---- asking

    int sign(int set) {
        if (set < 1 || set > 65535) {
            return OUTSIDE;
        }
        if (pattern.size() == 12) {
            return FULL;
        }
        pattern.add(set);
        return pattern.size();
    }

    int clear() {
        int had = pattern.size();
        pattern.clear();
        return had;
    }

    int seek(int v, int k, int i) {
        if (noVersion(v)) {
            return UNKNOWN;
        }
        if (k < 0 || k > 3) {
            return OUTSIDE;
        }
        if (pattern.isEmpty()) {
            return NOT;
        }
        if (anyTorn(v)) {
            return TORN;
        }
        List<Integer> text = text(v);
        List<Integer> found = new ArrayList<>();
        for (int p = 0; p < text.size(); p++) {
            int slips = 0;
            for (int j = 0; j < pattern.size(); j++) {
                if (p + j >= text.size()) {
                    slips = 99;
                } else if (!BigInteger.valueOf(pattern.get(j)).testBit(text.get(p + j))) {
                    slips++;
                }
            }
            if (slips <= k) {
                found.add(p);
            }
        }
        return i == NONE ? found.size() : ith(found, i);
    }

    int span(int v, int a, int b, int what) {
        if (noVersion(v)) {
            return UNKNOWN;
        }
        List<Integer> text = text(v);
        if (a < 0 || a > text.size() || b < 0 || b > text.size() || a >= b) {
            return UNKNOWN;
        }
        if (what < 0 || what > 3) {
            return OUTSIDE;
        }
        for (int p = a; p < b; p++) {
            if (tornAt(v, p)) {
                return TORN;
            }
        }
        List<Integer> part = new ArrayList<>(text.subList(a, b));
        Collections.sort(part);
        int often = part.get(0);
        int sum = 0;
        for (int x : part) {
            sum += x;
            if (Collections.frequency(part, x) > Collections.frequency(part, often)) {
                often = x;
            }
        }
        return new int[] {sum, part.get(0), part.get(part.size() - 1), often}[what];
    }

    // ---- torn, sent, bounds

    int tear(int b) {
        if (noBlock(b)) {
            return UNKNOWN;
        }
        return torn.set(b, true) ? NOT : 1;
    }

    int sums(int v, int what, int k) {
        if (noVersion(v)) {
            return UNKNOWN;
        }
        if (what < 0 || what > 1 || k < 0 || k > 23) {
            return OUTSIDE;
        }
        int sum = 0;
        List<Integer> row = versions.get(v).row;
        for (int i = 0; i < row.size(); i++) {
            List<Integer> signs = blocks.get(row.get(i));
            sum += (k < signs.size() ? signs.get(k) : 16) * (what == 0 ? 1 : i + 1);
        }
        return sum % 17;
    }

    int restore(int v) {
        if (noVersion(v)) {
            return UNKNOWN;
        }
        List<Integer> row = versions.get(v).row;
        HashSet<Integer> unlike = new HashSet<>();
        for (int b : row) {
            if (torn.get(b)) {
                if (Collections.frequency(row, b) > 1) {
                    return NOT;
                }
                unlike.add(b);
            }
        }
        if (unlike.isEmpty() || unlike.size() > 2) {
            return NOT;
        }
        unlike.forEach(b -> torn.set(b, false));
        return unlike.size();
    }

    static int differ(List<Integer> a, List<Integer> b) {
        if (a.isEmpty() || b.isEmpty()) {
            return a.size() + b.size();
        }
        List<Integer> restA = a.subList(1, a.size());
        List<Integer> restB = b.subList(1, b.size());
        if (a.get(0).equals(b.get(0))) {
            return differ(restA, restB);
        }
        return 1 + Math.min(differ(restA, b), differ(a, restB));
    }

    int send(int v, int w, int what) {
        if (noVersion(v) || noVersion(w)) {
            return UNKNOWN;
        }
        if (what < 0 || what > 2) {
            return OUTSIDE;
        }
        HashSet<Integer> there = new HashSet<>(versions.get(v).row);
        int bits = 0;
        int whole = 0;
        for (int b : versions.get(w).row) {
            if (there.add(b)) {
                whole++;
                bits += 4 * blocks.get(b).size() + 3;
            } else {
                bits += 4;
            }
        }
        return what == 0 ? bits : what == 1 ? whole : differ(versions.get(v).row, versions.get(w).row);
    }

    static BigInteger factorial(int n) {
        return n < 2 ? BigInteger.ONE : BigInteger.valueOf(n).multiply(factorial(n - 1));
    }

    BigInteger allWays(int b) {
        BigInteger ways = factorial(blocks.get(b).size());
        for (int x = 0; x < 16; x++) {
            ways = ways.divide(factorial(Collections.frequency(blocks.get(b), x)));
        }
        return ways;
    }

    long ways(int b) {
        if (noBlock(b)) {
            return UNKNOWN;
        }
        if (blocks.get(b).size() > 20) {
            return NOT;
        }
        return torn.get(b) ? TORN : allWays(b).longValueExact();
    }

    int bound(int b) {
        long refused = ways(b);
        if (refused < 0) {
            return (int) refused;
        }
        int bits = 0;
        while (BigInteger.TWO.pow(bits).compareTo(allWays(b)) < 0) {
            bits++;
        }
        return bits;
    }

    int entropy(int b, int k) {
        if (noBlock(b)) {
            return UNKNOWN;
        }
        if (k < -1 || k > 15) {
            return OUTSIDE;
        }
        return torn.get(b) ? TORN : k == NONE ? blocks.get(b).size() : Collections.frequency(blocks.get(b), k);
    }

    static String shown(String name, long... args) {
        return name + Arrays.toString(args).replace('[', '(').replace(']', ')');
    }
}
