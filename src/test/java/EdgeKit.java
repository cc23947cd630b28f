import java.io.IOException;
import java.nio.file.Files;
import java.nio.file.Path;
import java.util.ArrayList;
import java.util.List;
import java.util.Set;
import java.util.TreeSet;

/**
 * What the edge tests share: one object whose calls are told as text ("put 0 16 9"), and the sentence of the document
 * that is being looked at. A sentence that the document does not have is a fault, and so is an object with over 512 calls.
 */
class EdgeKit {
    static final int NONE = -1, UNKNOWN = -100001, OUTSIDE = -100002, NOT = -100003, FULL = -100004, TORN = -100005;
    static final int LOW = Integer.MIN_VALUE, HIGH = Integer.MAX_VALUE;
    private static final int CALLS_MOST = 512;
    /** So many questions go to one object, behind the calls that brought it where it is. */
    private static final int SLICE = 200;
    static final List<String> REFUSALS = List.of("UNKNOWN", "OUTSIDE", "NOT", "FULL", "TORN");
    static final int PROMISES = 30;
    private static final String[] SECTIONS = sections();

    private static final Set<Integer> promises = new TreeSet<>();
    private static final List<String> history = new ArrayList<>();
    private static SignCellar x = new SignCellar();
    private static int calls = 0;
    private static String sentence = "";
    private static int asked = 0;
    private static int wrong = 0;

    /** Section 0 is all that stands ahead of promise 1, section n is that of promise n. */
    private static String[] sections() {
        try {
            String all = Files.readString(Path.of("../shared/DOC.md")).replaceAll("\\s+", " ");
            return all.split("## (Promise \\d+:|Not promised)");
        } catch (IOException e) {
            return new String[0];
        }
    }

    /** The name of the call that the promise is about, its section's first word. */
    static String nameOf(int promise) {
        return promise < SECTIONS.length ? SECTIONS[promise].strip().split(" ")[0] : "";
    }

    /** The refusals that the promise names; where TORN is a word of what is answered it is none. */
    static Set<String> refusalsOf(int promise) {
        Set<String> named = new TreeSet<>();
        String told = promise < SECTIONS.length ? SECTIONS[promise] : "";
        told = told.replaceAll("(are|is) TORN|TORN (ones|or not)", " ");
        for (String refusal : REFUSALS) {
            if (told.matches(".*\\b" + refusal + "\\b.*")) {
                named.add(refusal);
            }
        }
        return named;
    }

    /** The name of a refusal, "" for any other answer. */
    static String refusalNamed(long answer) {
        long i = UNKNOWN - answer;
        return i >= 0 && i < REFUSALS.size() ? REFUSALS.get((int) i) : "";
    }

    static void fault(String what) {
        wrong++;
        System.out.println("\"" + sentence + "\": " + what);
    }

    /** From here on this sentence is looked at; promise 0 is what stands ahead of all promises. */
    static void says(int promise, String words) {
        promises.add(promise);
        sentence = words;
        if (promise >= SECTIONS.length || !SECTIONS[promise].contains(words)) {
            fault("the document does not say so for promise " + promise);
        }
    }

    // ---- the object

    static void fresh(String... rows) {
        x = new SignCellar();
        history.clear();
        calls = 0;
        for (String row : rows) {
            feed(row);
            call("make");
        }
    }

    static long number(String told) {
        switch (told) {
            case "LOW": return LOW;
            case "HIGH": return HIGH;
            case "NONE": return NONE;
            default: return Long.decode(told);
        }
    }

    static long[] numbers(String call) {
        String[] words = call.split(" ");
        long[] a = new long[words.length - 1];
        for (int i = 0; i < a.length; i++) {
            a[i] = number(words[i + 1]);
        }
        return a;
    }

    static long ask(SignCellar on, String call) {
        return ask(on, call.split(" ")[0], numbers(call));
    }

    static long ask(SignCellar on, String name, long... a) {
        int p = a.length > 0 ? (int) a[0] : 0;
        int q = a.length > 1 ? (int) a[1] : 0;
        int r = a.length > 2 ? (int) a[2] : 0;
        switch (name) {
            case "feed": return on.feed(p, a[1]);
            case "make": return on.make();
            case "change": return on.change(p, q, r);
            case "put": return on.put(p, q, r);
            case "strike": return on.strike(p, q);
            case "about": return on.about(p, q);
            case "block": return on.block(p, q);
            case "open": return on.open(p, q);
            case "told": return on.told(p, q);
            case "count": return on.count(p);
            case "share": return on.share(p, q);
            case "size": return on.size(p, q);
            case "time": return on.time(p, q);
            case "cut": return on.cut(p, q);
            case "rule": return on.rule(p, q, r);
            case "bit": return on.bit(p, q);
            case "turned": return on.turned(p, q, r);
            case "best": return on.best(p, q, r);
            case "sign": return on.sign(p);
            case "clear": return on.clear();
            case "seek": return on.seek(p, q, r);
            case "span": return on.span(p, q, r, (int) a[3]);
            case "tear": return on.tear(p);
            case "sums": return on.sums(p, q, r);
            case "restore": return on.restore(p);
            case "send": return on.send(p, q, r);
            case "ways": return on.ways(p);
            case "bound": return on.bound(p);
            case "entropy": return on.entropy(p, q);
            default: throw new IllegalArgumentException(name);
        }
    }

    static long call(String call) {
        calls++;
        if (calls > CALLS_MOST) {
            fault("the test asks an object over 512 times");
        }
        history.add(call);
        return ask(x, call);
    }

    static int callsMade() {
        return calls;
    }

    // ---- what is due

    static void due(String call, long want) {
        same(call, call(call), want);
    }

    static void same(String what, long got, long want) {
        asked++;
        if (got != want) {
            fault(what + " answered " + got + ", due is " + want);
        }
    }

    /** The answer is due, and all that can be asked then is answered as if the call had not been. */
    static void refused(String call, long want) {
        List<String> before = seen(history);
        due(call, want);
        if (!seen(history).equals(before)) {
            fault(call + " changes something");
        }
        history.remove(history.size() - 1);
    }

    /** One SIGN for each letter, behind THE DRAFT. */
    static void feed(String hex) {
        for (int i = 0; i < hex.length(); i += 15) {
            String part = hex.substring(i, Math.min(hex.length(), i + 15));
            call("feed " + part.length() + " 0x" + part);
        }
    }

    static int make(String hex) {
        feed(hex);
        return (int) call("make");
    }

    static void dueText(int v, String want) {
        StringBuilder got = new StringBuilder();
        long n = call("about " + v + " 0");
        for (int p = 0; p < n; p++) {
            long sign = call("open " + v + " " + p);
            got.append(sign < 0 ? "?" : Long.toHexString(sign));
        }
        asked++;
        if (!got.toString().equals(want)) {
            fault("VERSION " + v + " is " + got + ", due is " + want);
        }
    }

    static void dueRow(int v, int... want) {
        due("about " + v + " 1", want.length);
        for (int i = 0; i < want.length; i++) {
            due("block " + v + " " + i, want[i]);
        }
    }

    /** All that is asked by counting up from i = 0 is this, and then NONE. */
    static void dueList(String call, int... want) {
        for (int i = 0; i < want.length; i++) {
            due(call + " " + i, want[i]);
        }
        due(call + " " + want.length, NONE);
    }

    /** VERSIONS of a single SIGN until there are so many. */
    static void fillVersions(int want) {
        for (long n = call("count 1"); n < want; n++) {
            call("feed 1 15");
            due("make", n);
        }
    }

    // ---- all that can be seen

    private static SignCellar replayed(List<String> past) {
        SignCellar on = new SignCellar();
        for (String call : past) {
            ask(on, call);
        }
        return on;
    }

    static List<String> seen(List<String> past) {
        if (past.size() + SLICE > CALLS_MOST) {
            fault("too many calls to look at all that can be seen");
        }
        List<String> all = new ArrayList<>();
        SignCellar on = null;
        for (String question : questions(replayed(past))) {
            if (all.size() % SLICE == 0) {
                on = replayed(past);
            }
            all.add(question + " = " + ask(on, question));
        }
        on = replayed(past);
        long made = ask(on, "make");
        for (int p = 0; made >= 0 && p < on.about((int) made, 0); p++) {
            all.add("of the draft = " + on.open((int) made, p));
        }
        return all;
    }

    private static List<String> questions(SignCellar on) {
        List<String> all = new ArrayList<>();
        for (int what = 0; what < 7; what++) {
            all.add("count " + what);
        }
        for (int v = 0; v < on.count(1); v++) {
            questionsOfVersion(all, v, on.about(v, 0), on.count(4));
        }
        for (int b = 0; b < on.count(2); b++) {
            questionsOfBlock(all, b);
        }
        return all;
    }

    private static void questionsOfVersion(List<String> all, int v, int signs, int sets) {
        for (int i = 0; i < 8; i++) {
            all.add("about " + v + " " + i % 5);
            all.add("block " + v + " " + i);
            all.add("best " + v + " 9999 " + (i - 2));
        }
        for (int p = 0; p < signs; p++) {
            all.add("open " + v + " " + p);
        }
        for (int k = 0; k < 48; k++) {
            all.add("sums " + v + " " + k / 24 + " " + k % 24);
        }
        for (int i = 0; i < 12 && sets > 0; i++) {
            all.add("seek " + v + " " + i % 4 + " " + (i / 4 - 1));
        }
    }

    private static void questionsOfBlock(List<String> all, int b) {
        for (int what = 0; what < 5; what++) {
            all.add("told " + b + " " + what % 3);
            all.add("size " + b + " " + what);
            all.add("time " + b + " " + what);
            all.add("rule " + b + " " + what + " 0");
            all.add("cut " + b + " " + (what - 1));
            all.add("turned " + b + " " + what % 3 + " 0");
        }
        all.add("ways " + b);
        all.add("bound " + b);
    }

    // ---- the end

    /** Fails, too, if a promise from first to last had no sentence looked at. */
    static void end(int first, int last) {
        for (int n = first; n <= last; n++) {
            if (!promises.contains(n)) {
                sentence = "promise " + n;
                fault("nothing of it was looked at");
            }
        }
        System.out.println(asked + " answers at edges, " + wrong + " not as due");
        if (wrong != 0) {
            System.exit(1);
        }
    }
}
