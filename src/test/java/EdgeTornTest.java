/** The edges of the terms' part 4 and of promises 24 to 30: torn, sent, bounds. */
public final class EdgeTornTest extends EdgeKit {
    private static final String SIXTEEN = "0123456789abcdef";

    private static void tearing() {
        says(24, "A BLOCK is TORN: 1. UNKNOWN; NOT: it is.");
        fresh(SIXTEEN + "7");
        for (String b : new String[] {"-1", "2", "200", "LOW", "HIGH"}) {
            refused("tear " + b, UNKNOWN);
        }
        due("tear 1", 1);
        refused("tear 1", NOT);
        due("tear 0", 1);
        refused("tear 0", NOT);
        due("count 3", 2);
        due("restore 0", 2);
        due("tear 1", 1);
        says(0, "A BLOCK may be TORN (in all VERSIONS that have it): it cannot be opened; how many SIGNS it has is known.");
        fresh(SIXTEEN + "7", SIXTEEN, "7");
        due("tear 0", 1);
        for (int v = 0; v < 2; v++) {
            refused("open " + v + " 0", TORN);
            refused("open " + v + " 15", TORN);
            due("about " + v + " 4", 1);
            due("about " + v + " 0", v == 0 ? 17 : 16);
        }
        due("about 2 4", 0);
        due("open 0 16", 7);
        due("told 0 0", 16);
        due("told 0 1", 1);
        due("told 0 2", 2);
        due("count 5", 17);
        due("count 6", 34);
        due("share 0 1", 1);
        String[] opened = {"size 0 0", "time 0 0", "cut 0 NONE", "rule 0 0 0", "bit 0 0", "turned 0 0 0", "best 0 9999 NONE",
            "best 1 0 NONE", "span 0 0 1 0", "ways 0", "bound 0", "entropy 0 0", "entropy 0 NONE", "change 1 0 0", "put 1 0 0", "strike 1 0"};
        for (String call : opened) {
            refused(call, TORN);
        }
        due("best 2 1 NONE", 4);
        // restored by one VERSION it is there in all
        due("restore 1", 1);
        due("open 0 15", 15);
        due("count 3", 0);
    }

    private static void sums() {
        says(0, "each BLOCK as 24 numbers (its SIGNS; 16 behind them); for each of 24: all BLOCKS' numbers together, and each times the number of its BLOCK in the VERSION and 1, both what is left by 17");
        fresh("7");
        due("sums 0 0 0", 7);
        due("sums 0 1 0", 7);
        due("sums 0 0 1", 16);
        due("sums 0 1 1", 16);
        due("sums 0 0 23", 16);
        due("sums 0 1 23", 16);
        fresh(SIXTEEN + "fedcba9876543210" + "2");
        int[][] want = {{0, 0, (0 + 15 + 2) % 17}, {1, 0, (0 + 30 + 6) % 17}, {0, 1, (1 + 14 + 16) % 17}, {1, 1, (1 + 28 + 48) % 17},
            {0, 15, (15 + 0 + 16) % 17}, {1, 15, (15 + 0 + 48) % 17}, {0, 16, 48 % 17}, {1, 16, (16 + 32 + 48) % 17},
            {0, 23, 48 % 17}, {1, 23, 96 % 17}};
        for (int[] w : want) {
            due("sums 0 " + w[0] + " " + w[1], w[2]);
        }
        says(25, "SUMS of a VERSION: number k (0 .. 23) of the first ones (what = 0), of those times numbers (1). UNKNOWN, OUTSIDE.");
        for (String k : new String[] {"-1", "24", "LOW", "HIGH"}) {
            refused("sums 0 0 " + k, OUTSIDE);
            refused("sums 0 1 " + k, OUTSIDE);
            refused("sums 1 0 " + k, UNKNOWN);
        }
        for (String what : new String[] {"-1", "2", "LOW", "HIGH"}) {
            refused("sums 0 " + what + " 0", OUTSIDE);
            refused("sums -1 " + what + " 0", UNKNOWN);
        }
        refused("sums 1 0 0", UNKNOWN);
        refused("sums HIGH 0 0", UNKNOWN);
        says(0, "SUMS of a VERSION are kept with it");
        due("tear 0", 1);
        due("tear 1", 1);
        due("tear 2", 1);
        for (int[] w : want) {
            due("sums 0 " + w[0] + " " + w[1], w[2]);
        }
        refused("sums 0 0 24", OUTSIDE);
        fresh("7");
        due("strike 0 0", 1);
        for (int k = 0; k < 24; k++) {
            due("sums 1 0 " + k, 0);
            due("sums 1 1 " + k, 0);
        }
        // 24 SIGNS: no number behind them
        fresh("1".repeat(16));
        for (int v = 0; v < 8; v++) {
            due("put " + v + " 16 3", v + 1);
            due("sums " + (v + 1) + " 0 " + (16 + v), 3);
        }
        due("sums 8 1 23", 3);
        due("sums 7 1 23", 16);
    }

    private static void restoring() {
        says(0, "one or two of its BLOCKS that are TORN (unlike ones, each in it once); with more, or if one stands in it twice, none");
        says(26, "RESTORED by SUMS of a VERSION: how many BLOCKS. UNKNOWN; NOT: none can be (or none is TORN).");
        fresh(SIXTEEN + "fedcba9876543210" + "00f", SIXTEEN + SIXTEEN + "5");
        for (String v : new String[] {"-1", "2", "LOW", "HIGH"}) {
            refused("restore " + v, UNKNOWN);
        }
        refused("restore 0", NOT);
        due("tear 2", 1);
        refused("restore 1", NOT);
        due("restore 0", 1);
        refused("restore 0", NOT);
        due("tear 2", 1);
        due("tear 0", 1);
        refused("restore -1", UNKNOWN);
        // BLOCK 0 stands twice in VERSION 1
        refused("restore 1", NOT);
        due("restore 0", 2);
        dueText(0, SIXTEEN + "fedcba9876543210" + "00f");
        dueText(1, SIXTEEN + SIXTEEN + "5");
        due("tear 0", 1);
        due("tear 3", 1);
        refused("restore 1", NOT);
        due("restore 0", 1);
        due("restore 1", 1);
        dueText(1, SIXTEEN + SIXTEEN + "5");
        due("tear 0", 1);
        due("tear 1", 1);
        due("tear 2", 1);
        refused("restore 0", NOT);
        due("count 3", 3);
        // BLOCKS that stand twice and are not TORN are no hindrance
        fresh(SIXTEEN + SIXTEEN + "5555555555555555" + "12");
        due("tear 1", 1);
        due("tear 2", 1);
        due("restore 0", 2);
        dueText(0, SIXTEEN + SIXTEEN + "5555555555555555" + "12");
    }

    /** Three torn, of which another VERSION has one: then two are left, and they can be restored. */
    private static void restoringByOthers() {
        says(26, "RESTORED by SUMS of a VERSION: how many BLOCKS.");
        fresh("1".repeat(16) + "2".repeat(16) + "3".repeat(16), "2".repeat(16));
        for (int b = 0; b < 3; b++) {
            due("tear " + b, 1);
        }
        refused("restore 0", NOT);
        due("restore 1", 1);
        due("restore 0", 2);
        due("count 3", 0);
        dueText(0, "1".repeat(16) + "2".repeat(16) + "3".repeat(16));
    }

    /** VERSION 18 has eight BLOCKS, the most there are. */
    private static void eightBlocks() {
        fresh(SIXTEEN + "1111222233334444" + "f0f0f0f0f0f0f0f0" + "0000000000000000" + "89ab89ab89ab89ab" + "fedcba9876543210");
        for (int v = 0; v < 18; v++) {
            due("put " + v + " " + (v < 9 ? 0 : 96 + v) + " " + (v + 3) % 16, v + 1);
        }
        due("about 18 1", 8);
    }

    private static void restoringOfEight() {
        says(0, "one or two of its BLOCKS that are TORN (unlike ones, each in it once)");
        String all = "ba9876543" + SIXTEEN + "1111222233334444" + "f0f0f0f0f0f0f0f0" + "0000000000000000" + "89ab89ab89ab89ab" + "fedcba9876543210"
            + "cdef01234";
        for (int p = 0; p < 8; p++) {
            for (int q = p; q < 8; q++) {
                eightBlocks();
                due("tear " + call("block 18 " + p), 1);
                if (q > p) {
                    due("tear " + call("block 18 " + q), 1);
                }
                due("restore 18", q > p ? 2 : 1);
                dueText(18, all);
                due("about 18 4", 0);
            }
        }
    }

    private static void sendingOfEight() {
        says(27, "SENT: bits for VERSION w to one who has v (what = 0), how many BLOCKS go whole (1), DIFFER (2).");
        eightBlocks();
        due("send 18 18 0", 32);
        due("send 18 18 1", 0);
        due("send 18 18 2", 0);
        due("send 18 0 0", 4 * 4 + 2 * 67);
        due("send 18 0 1", 2);
        due("send 18 0 2", 6);
        due("send 0 18 0", 4 * 4 + 2 * (4 * 12 + 3) + 2 * (4 * 13 + 3));
        due("send 0 18 1", 4);
        due("send 0 18 2", 6);
        due("put 18 0 1", 19);
        due("send 18 19 0", 7 * 4 + 4 * 13 + 3);
        due("send 18 19 2", 2);
        due("put 19 115 1", 20);
        due("send 18 20 2", 4);
    }

    private static void sending() {
        says(0, "each BLOCK of it that a has not (once each): PLAIN SIZE and 3; each other BLOCK of it 4 (also one sent before)");
        fresh("1".repeat(32) + "2", "3".repeat(32) + "1".repeat(16) + "45");
        due("send 0 1 0", 67 + 4 + 4 + 11);
        due("send 0 1 1", 2);
        due("send 1 0 0", 4 + 4 + 7);
        due("send 1 0 1", 1);
        due("send 0 0 0", 12);
        due("send 0 0 1", 0);
        says(0, "DIFFER: the fewest BLOCKS to put in or strike out to make the row of BLOCKS of a that of b.");
        due("send 0 0 2", 0);
        due("send 0 1 2", 5);
        due("send 1 0 2", 5);
        make("2");
        due("send 0 2 2", 2);
        due("send 2 0 2", 2);
        due("send 1 2 2", 5);
        says(27, "DIFFER (2). UNKNOWN, OUTSIDE. (TORN or not.)");
        for (String what : new String[] {"-1", "3", "LOW", "HIGH"}) {
            refused("send 0 1 " + what, OUTSIDE);
            refused("send 0 3 " + what, UNKNOWN);
            refused("send 3 0 " + what, UNKNOWN);
        }
        refused("send -1 0 0", UNKNOWN);
        refused("send 0 -1 0", UNKNOWN);
        refused("send HIGH LOW 0", UNKNOWN);
        due("tear 0", 1);
        due("tear 2", 1);
        due("send 0 1 0", 67 + 4 + 4 + 11);
        due("send 0 1 1", 2);
        due("send 0 1 2", 5);
        refused("send 0 1 3", OUTSIDE);
    }

    /** BLOCKS of 1 to 20 unlike or like SIGNS, and of 21. */
    private static void ways() {
        says(28, "WAYS of a BLOCK (of 20 SIGNS at most). UNKNOWN; NOT: it has more; TORN.");
        fresh(SIXTEEN);
        due("ways 0", 20922789888000L);
        for (int v = 0; v < 5; v++) {
            due("put " + v + " 0 " + v, v + 1);
        }
        due("told 4 0", 20);
        due("told 5 0", 21);
        due("ways 4", 2432902008176640000L / 16);
        refused("ways 5", NOT);
        refused("ways 6", UNKNOWN);
        refused("ways -1", UNKNOWN);
        refused("ways LOW", UNKNOWN);
        refused("ways HIGH", UNKNOWN);
        says(29, "BOUND of a BLOCK, likewise. UNKNOWN; NOT; TORN.");
        due("bound 4", 58);
        refused("bound 5", NOT);
        refused("bound 6", UNKNOWN);
        refused("bound -1", UNKNOWN);
        refused("bound LOW", UNKNOWN);
        refused("bound HIGH", UNKNOWN);
        due("tear 4", 1);
        due("tear 5", 1);
        refused("ways 4", TORN);
        refused("bound 4", TORN);
        refused("ways 5", NOT);
        refused("bound 5", NOT);
        says(0, "WAYS of a BLOCK: how many rows there are with as many of each SIGN. BOUND: the least bits with which so many can be told apart.");
        fresh("7", "77", "78", "778", "7778", "77778", "777777778", "7".repeat(15) + "8", "7788", "7777777" + "8888888");
        long[] ways = {1, 1, 2, 3, 4, 5, 9, 16, 6, 3432};
        int[] bound = {0, 0, 1, 2, 2, 3, 4, 4, 3, 12};
        for (int b = 0; b < ways.length; b++) {
            due("ways " + b, ways[b]);
            due("bound " + b, bound[b]);
        }
        // 17 rows need one bit more than 16
        fresh("7".repeat(16));
        due("put 0 0 8", 1);
        due("ways 1", 17);
        due("bound 1", 5);
    }

    private static void entropy() {
        says(30, "ENTROPY: how often SIGN k stands in a BLOCK; k = NONE: n. UNKNOWN, OUTSIDE (k), TORN.");
        fresh("00112f");
        int[] want = {2, 2, 1, 0, 0, 0, 0, 0, 0, 0, 0, 0, 0, 0, 0, 1};
        for (int k = 0; k < 16; k++) {
            due("entropy 0 " + k, want[k]);
        }
        due("entropy 0 NONE", 6);
        for (String k : new String[] {"-2", "16", "LOW", "HIGH"}) {
            refused("entropy 0 " + k, OUTSIDE);
            refused("entropy 1 " + k, UNKNOWN);
        }
        refused("entropy 1 NONE", UNKNOWN);
        refused("entropy -1 0", UNKNOWN);
        due("tear 0", 1);
        refused("entropy 0 0", TORN);
        refused("entropy 0 15", TORN);
        refused("entropy 0 NONE", TORN);
        refused("entropy 0 16", OUTSIDE);
        refused("entropy 0 -2", OUTSIDE);
    }

    public static void main(String[] args) {
        tearing();
        sums();
        restoring();
        restoringByOthers();
        restoringOfEight();
        sendingOfEight();
        sending();
        ways();
        entropy();
        end(24, 30);
    }
}
