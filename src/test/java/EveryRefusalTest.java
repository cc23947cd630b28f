import java.util.Map;
import java.util.Set;
import java.util.TreeMap;
import java.util.TreeSet;

/**
 * Each refusal that a promise names is met, by each of the numbers that can be wrong in the call, and changes nothing. The names
 * are read in the document: one that is not met here is a fault, and so is one that is met here and not named there.
 */
public final class EveryRefusalTest extends EdgeKit {
    private static final Map<Integer, Set<String>> met = new TreeMap<>();

    private static void refuses(int promise, int refusal, String... calls) {
        says(promise, refusalNamed(refusal));
        met.computeIfAbsent(promise, p -> new TreeSet<>()).add(refusalNamed(refusal));
        for (String call : calls) {
            same("the promise of " + call, call.split(" ")[0].equals(nameOf(promise)) ? promise : 0, promise);
            refused(call, refusal);
        }
    }

    private static void none(int promise, String... calls) {
        says(promise, "NONE");
        for (String call : calls) {
            refused(call, NONE);
        }
    }

    /** VERSION 0 has BLOCKS 0 (16 SIGNS) and 1 (4 SIGNS), VERSION 1 has none; SIGNS 5 6 are in THE DRAFT, two SETS in THE PATTERN. */
    private static void someVersions() {
        fresh("0123012301230123" + "4567", "8");
        due("strike 1 0", 2);
        due("feed 2 0x56", 2);
        due("sign 2", 1);
        due("sign 12", 2);
    }

    private static void unknown() {
        someVersions();
        refuses(4, UNKNOWN, "change -1 0 0", "change 3 0 0", "change LOW 0 0", "change HIGH 0 0", "change 0 -1 0", "change 0 20 0",
            "change 0 LOW 0", "change 0 HIGH 0", "change 2 0 0");
        refuses(5, UNKNOWN, "put -1 0 0", "put 3 0 0", "put LOW 0 0", "put HIGH 0 0", "put 0 -1 0", "put 0 21 0", "put 0 LOW 0", "put 0 HIGH 0",
            "put 2 1 0");
        refuses(6, UNKNOWN, "strike -1 0", "strike 3 0", "strike LOW 0", "strike HIGH 0", "strike 0 -1", "strike 0 20", "strike 0 LOW",
            "strike 0 HIGH", "strike 2 0");
        refuses(7, UNKNOWN, "about -1 0", "about 3 0", "about LOW 4", "about HIGH 4");
        refuses(8, UNKNOWN, "block -1 0", "block 3 0", "block LOW 0", "block HIGH 0", "block 3 9");
        refuses(9, UNKNOWN, "open -1 0", "open 3 0", "open LOW 0", "open HIGH 0", "open 0 -1", "open 0 20", "open 0 LOW", "open 0 HIGH", "open 2 0");
        refuses(10, UNKNOWN, "told -1 0", "told 3 0", "told LOW 1", "told HIGH 2");
        refuses(12, UNKNOWN, "share -1 0", "share 0 -1", "share 3 0", "share 0 3", "share LOW 0", "share 0 HIGH", "share 3 3");
        refuses(13, UNKNOWN, "size -1 0", "size 3 0", "size LOW 4", "size HIGH 4");
        refuses(14, UNKNOWN, "time -1 0", "time 3 0", "time LOW 4", "time HIGH 4");
        refuses(15, UNKNOWN, "cut -1 NONE", "cut 3 NONE", "cut LOW 0", "cut HIGH 0");
        refuses(16, UNKNOWN, "rule -1 0 0", "rule 3 0 0", "rule LOW 4 0", "rule HIGH 10 0");
        refuses(17, UNKNOWN, "bit -1 0", "bit 3 0", "bit LOW 0", "bit HIGH 0");
        refuses(18, UNKNOWN, "turned -1 0 0", "turned 3 0 0", "turned LOW 1 0", "turned HIGH 2 0");
        refuses(19, UNKNOWN, "best -1 9999 NONE", "best 3 9999 NONE", "best LOW 0 0", "best HIGH 0 0");
        refuses(22, UNKNOWN, "seek -1 0 NONE", "seek 3 0 NONE", "seek LOW 3 0", "seek HIGH 3 0");
        refuses(23, UNKNOWN, "span -1 0 1 0", "span 3 0 1 0", "span LOW 0 1 0", "span HIGH 0 1 0", "span 0 -1 1 0", "span 0 0 21 0",
            "span 0 0 0 0", "span 0 20 20 0", "span 0 5 4 0", "span 0 LOW HIGH 0", "span 0 HIGH LOW 0", "span 2 0 1 0", "span 2 0 0 0");
        refuses(24, UNKNOWN, "tear -1", "tear 3", "tear LOW", "tear HIGH");
        refuses(25, UNKNOWN, "sums -1 0 0", "sums 3 0 0", "sums LOW 1 23", "sums HIGH 1 23");
        refuses(26, UNKNOWN, "restore -1", "restore 3", "restore LOW", "restore HIGH");
        refuses(27, UNKNOWN, "send -1 0 0", "send 0 -1 0", "send 3 0 1", "send 0 3 1", "send LOW 0 2", "send 0 HIGH 2");
        refuses(28, UNKNOWN, "ways -1", "ways 3", "ways LOW", "ways HIGH");
        refuses(29, UNKNOWN, "bound -1", "bound 3", "bound LOW", "bound HIGH");
        refuses(30, UNKNOWN, "entropy -1 0", "entropy 3 0", "entropy LOW NONE", "entropy HIGH 15");
    }

    private static void outside() {
        someVersions();
        refuses(2, OUTSIDE, "feed 0 1", "feed 16 1", "feed -1 1", "feed LOW 1", "feed HIGH 1");
        refuses(4, OUTSIDE, "change 0 0 -1", "change 0 0 16", "change 0 19 LOW", "change 0 19 HIGH");
        refuses(5, OUTSIDE, "put 0 0 -1", "put 0 20 16", "put 2 0 LOW", "put 2 0 HIGH");
        refuses(7, OUTSIDE, "about 0 -1", "about 0 5", "about 2 LOW", "about 2 HIGH");
        refuses(10, OUTSIDE, "told 0 -1", "told 0 3", "told 2 LOW", "told 2 HIGH");
        refuses(11, OUTSIDE, "count -1", "count 7", "count LOW", "count HIGH");
        refuses(13, OUTSIDE, "size 0 -1", "size 0 5", "size 2 LOW", "size 2 HIGH");
        refuses(14, OUTSIDE, "time 0 -1", "time 0 5", "time 2 LOW", "time 2 HIGH");
        refuses(16, OUTSIDE, "rule 0 -1 0", "rule 0 5 0", "rule 0 6 0", "rule 0 7 0", "rule 0 8 0", "rule 0 9 0", "rule 0 LOW 0");
        refuses(18, OUTSIDE, "turned 0 -1 0", "turned 0 3 0", "turned 2 LOW 0", "turned 2 HIGH 0");
        refuses(19, OUTSIDE, "best 0 -1 NONE", "best 0 10000 NONE", "best 0 LOW 0", "best 0 HIGH 0", "best 0 9999 -3", "best 0 9999 LOW",
            "best 2 -1 NONE", "best 2 0 -3");
        refuses(20, OUTSIDE, "sign 0", "sign -1", "sign 65536", "sign LOW", "sign HIGH");
        refuses(22, OUTSIDE, "seek 0 -1 NONE", "seek 0 4 NONE", "seek 2 LOW 0", "seek 2 HIGH 0");
        refuses(23, OUTSIDE, "span 0 0 1 -1", "span 0 0 20 4", "span 0 19 20 LOW", "span 0 19 20 HIGH");
        refuses(25, OUTSIDE, "sums 0 -1 0", "sums 0 2 0", "sums 0 0 -1", "sums 0 1 24", "sums 2 LOW 0", "sums 2 HIGH 0", "sums 2 0 LOW",
            "sums 2 1 HIGH");
        refuses(27, OUTSIDE, "send 0 2 -1", "send 2 0 3", "send 0 0 LOW", "send 0 0 HIGH");
        refuses(30, OUTSIDE, "entropy 0 -2", "entropy 0 16", "entropy 2 LOW", "entropy 2 HIGH");
    }

    /** A BLOCK of 21 SIGNS is made by five puts; another one is TORN. */
    private static void not() {
        fresh("0123012301230123");
        for (int v = 0; v < 5; v++) {
            due("put " + v + " 0 7", v + 1);
        }
        due("told 5 0", 21);
        due("tear 0", 1);
        refuses(3, NOT, "make");
        refuses(19, NOT, "best 1 16 NONE", "best 1 16 -2", "best 1 16 0", "best 1 0 NONE");
        refuses(22, NOT, "seek 1 0 NONE", "seek 0 3 0");
        refuses(24, NOT, "tear 0");
        refuses(26, NOT, "restore 1");
        refuses(28, NOT, "ways 5");
        refuses(29, NOT, "bound 5");
        due("tear 5", 1);
        refuses(28, NOT, "ways 5");
        refuses(29, NOT, "bound 5");
        notRestored();
    }

    private static void notRestored() {
        fresh("0".repeat(16) + "1".repeat(16) + "2".repeat(16), "3".repeat(32));
        for (int b = 0; b < 4; b++) {
            due("tear " + b, 1);
        }
        refuses(26, NOT, "restore 0", "restore 1");
    }

    private static void full() {
        fresh("0".repeat(16) + "1".repeat(16) + "2".repeat(16) + "3".repeat(16) + "4".repeat(16) + "5".repeat(16));
        for (int v = 0; v < 26; v++) {
            due("put " + v + " " + (v < 9 ? "0 10" : v < 18 ? 96 + v + " 11" : "25 12"), v + 1);
        }
        refuses(5, FULL, "put 26 25 0", "put 26 48 0");
        fillVersions(30);
        feed("7".repeat(90));
        refuses(2, FULL, "feed 7 1", "feed 15 1");
        feed("7".repeat(6));
        for (int i = 1; i <= 12; i++) {
            due("sign 65535", i);
        }
        refuses(2, FULL, "feed 1 0");
        refuses(3, FULL, "make");
        refuses(4, FULL, "change 0 0 1", "change 0 0 0", "change 29 0 1");
        refuses(5, FULL, "put 0 0 1", "put 0 96 1", "put 29 1 1");
        refuses(6, FULL, "strike 0 0", "strike 0 95", "strike 29 0");
        refuses(20, FULL, "sign 1", "sign 65535");
    }

    private static void torn() {
        someVersions();
        due("tear 1", 1);
        refuses(4, TORN, "change 0 0 1", "change 0 16 1", "change 0 19 4");
        refuses(5, TORN, "put 0 0 1", "put 0 16 1", "put 0 20 1");
        refuses(6, TORN, "strike 0 0", "strike 0 16", "strike 0 19");
        refuses(9, TORN, "open 0 16", "open 0 19");
        refuses(13, TORN, "size 1 0", "size 1 1", "size 1 2", "size 1 3", "size 1 4");
        refuses(14, TORN, "time 1 0", "time 1 1", "time 1 2", "time 1 3", "time 1 4");
        refuses(15, TORN, "cut 1 NONE", "cut 1 0", "cut 1 99");
        refuses(16, TORN, "rule 1 0 0", "rule 1 1 0", "rule 1 2 0", "rule 1 3 0", "rule 1 4 0", "rule 1 10 0");
        refuses(17, TORN, "bit 1 0", "bit 1 NONE", "bit 1 999");
        refuses(18, TORN, "turned 1 0 0", "turned 1 1 0", "turned 1 2 0");
        refuses(19, TORN, "best 0 9999 NONE", "best 0 9999 -2", "best 0 9999 0", "best 0 0 0", "best 0 9999 9");
        refuses(22, TORN, "seek 0 0 NONE", "seek 0 3 0", "seek 0 0 99");
        refuses(23, TORN, "span 0 0 20 0", "span 0 15 17 1", "span 0 16 17 2", "span 0 19 20 3");
        refuses(28, TORN, "ways 1");
        refuses(29, TORN, "bound 1");
        refuses(30, TORN, "entropy 1 4", "entropy 1 15");
    }

    /** What there is none of is answered NONE, and that changes nothing either. */
    private static void noneSuch() {
        someVersions();
        none(7, "about 0 2", "about 1 2");
        none(8, "block 0 2", "block 0 -1", "block 0 LOW", "block 0 HIGH", "block 2 0");
        none(15, "cut 0 99", "cut 0 -2", "cut 1 4", "cut 0 LOW", "cut 0 HIGH");
        none(16, "rule 0 3 -1", "rule 0 3 99", "rule 1 3 4", "rule 0 4 -1", "rule 1 4 0", "rule 1 10 0", "rule 0 34 0", "rule 0 HIGH 0",
            "rule 0 10 LOW", "rule 0 10 HIGH");
        none(17, "bit 0 -1", "bit 0 999", "bit 0 LOW", "bit 0 HIGH");
        none(18, "turned 0 1 -1", "turned 0 1 16", "turned 1 2 4", "turned 1 2 HIGH", "turned 0 1 LOW");
        none(19, "best 0 9999 2", "best 0 9999 HIGH", "best 2 0 0");
        none(22, "seek 0 0 99", "seek 0 0 -2", "seek 0 0 LOW", "seek 0 3 HIGH", "seek 2 3 0");
    }

    /** What does not name TORN has no BLOCK to open. */
    private static void tornAndAnswered() {
        someVersions();
        for (int b = 0; b < 3; b++) {
            due("tear " + b, 1);
        }
        due("about 0 0", 20);
        due("about 0 4", 2);
        due("block 0 1", 1);
        due("told 1 0", 4);
        due("told 1 1", 1);
        due("count 3", 3);
        due("count 6", 21);
        due("share 0 0", 2);
        due("sums 0 0 0", 4);
        due("sums 0 1 0", 8);
        due("send 2 0 0", 4 * 20 + 6);
        due("send 0 0 0", 8);
        due("send 1 0 1", 2);
        due("send 1 0 2", 3);
        due("restore 0", 2);
        dueText(0, "01230123012301234567");
        due("make", 3);
    }

    public static void main(String[] args) {
        unknown();
        outside();
        not();
        full();
        torn();
        noneSuch();
        tornAndAnswered();
        for (int promise = 1; promise <= PROMISES; promise++) {
            Set<String> here = met.getOrDefault(promise, Set.of());
            if (!here.equals(refusalsOf(promise))) {
                fault("promise " + promise + " names " + refusalsOf(promise) + ", met are " + here);
            }
        }
        end(0, -1);
    }
}
