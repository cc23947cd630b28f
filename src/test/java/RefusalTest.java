/** Of several refusals the first in the order of the document, and what is refused changes nothing. */
public final class RefusalTest extends EdgeKit {
    /**
     * VERSION 26 has eight BLOCKS and 122 SIGNS, PLACES 25 to 48 are of its BLOCK of 24 SIGNS, PLACES 0 to 11 of a TORN one;
     * the TORN BLOCKS are that and the one of 24 SIGNS.
     */
    private static void crowded() {
        fresh("0000000000000000111111111111111122222222222222223333333333333333" + "44444444444444445555555555555555");
        for (int v = 0; v < 26; v++) {
            due("put " + v + " " + (v < 9 ? "0 10" : v < 18 ? 96 + v + " 11" : "25 12"), v + 1);
        }
        due("about 26 0", 122);
        due("tear " + call("block 26 0"), 1);
        due("tear " + call("block 26 2"), 1);
    }

    private static void unknownFirst(String... calls) {
        says(0, "UNKNOWN (a VERSION, BLOCK, PLACE that there is not)");
        for (String call : calls) {
            refused(call, UNKNOWN);
        }
    }

    private static void outsideNext(String... calls) {
        says(0, "OUTSIDE (another number out of its bounds)");
        for (String call : calls) {
            refused(call, OUTSIDE);
        }
    }

    private static void notNext(String... calls) {
        says(0, "NOT (not now, as told)");
        for (String call : calls) {
            refused(call, NOT);
        }
    }

    private static void fullNext(String... calls) {
        says(0, "NOT (not now, as told), FULL, TORN");
        for (String call : calls) {
            refused(call, FULL);
        }
    }

    private static void tornLast(String... calls) {
        says(0, "TORN (a BLOCK that is torn has to be opened)");
        for (String call : calls) {
            refused(call, TORN);
        }
    }

    /** With room for VERSIONS, and an empty PATTERN. */
    private static void withRoom() {
        crowded();
        long b = call("block 26 2");
        unknownFirst("change 27 0 16", "change 26 122 16", "change 26 -1 16", "put 27 0 16", "put 26 123 16", "strike 26 122",
            "strike 27 0", "open 26 122", "open 26 -1", "seek 27 4 0", "seek 27 0 0", "best 27 -1 -3", "best 27 0 0", "span 26 5 5 4",
            "span 26 0 123 4", "span 27 0 1 4", "restore 27");
        outsideNext("change 26 0 16", "put 26 0 16", "put 26 25 16", "seek 26 4 0", "seek 26 -1 0", "best 26 0 -3", "best 26 -1 0",
            "best 26 10000 0", "span 26 0 1 4", "size " + b + " 5", "time " + b + " -1", "rule " + b + " 9 0", "turned " + b + " 3 0",
            "entropy " + b + " 16", "sums 26 2 0", "send 26 26 3", "about 26 5", "told " + b + " 3");
        notNext("make", "seek 26 0 0", "ways " + b, "bound " + b, "tear " + b);
        fullNext("put 26 25 0", "put 26 48 0");
        tornLast("change 26 0 1", "change 26 121 1", "put 26 0 1", "put 26 122 1", "put 26 49 1", "strike 26 0", "strike 26 121",
            "open 26 0", "open 26 48", "best 26 0 0", "best 26 9999 9", "span 26 0 1 0", "span 26 24 26 0", "size " + b + " 0",
            "time " + b + " 4", "cut " + b + " 99", "rule " + b + " 10 99", "bit " + b + " 999", "turned " + b + " 2 99", "entropy " + b + " 0");
        due("sign 1", 1);
        tornLast("seek 26 0 0", "seek 26 3 NONE");
    }

    /** With 30 VERSIONS, a full DRAFT and a full PATTERN. */
    private static void withoutRoom() {
        crowded();
        fillVersions(30);
        notNext("make");
        feed("7".repeat(96));
        for (int i = 1; i <= 12; i++) {
            due("sign " + i, i);
        }
        unknownFirst("change 30 0 16", "change 26 122 1", "change 0 96 1", "change 26 -1 16", "put 30 0 0", "put 26 123 0", "put 0 97 16",
            "strike 26 122", "strike 30 0", "strike 0 96", "strike 0 -1");
        outsideNext("change 26 0 16", "change 0 0 -1", "put 26 0 16", "put 26 25 16", "put 0 0 -1", "feed 0 1", "feed 16 1", "sign 0",
            "sign 65536");
        fullNext("make", "change 26 0 1", "change 0 0 1", "change 0 0 0", "put 26 0 1", "put 26 25 1", "put 0 0 1", "strike 26 0",
            "strike 0 0", "strike 29 0", "feed 1 1", "feed 15 1", "sign 1", "sign 65535");
        tornLast("seek 26 0 0", "best 26 0 0", "open 26 0");
        says(0, "What is refused changes nothing.");
        due("count 0", 96);
        due("count 1", 30);
        due("count 3", 2);
        due("count 4", 12);
    }

    public static void main(String[] args) {
        withRoom();
        withoutRoom();
        end(0, 0);
    }
}
