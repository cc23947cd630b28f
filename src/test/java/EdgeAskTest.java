/** The edges of the terms' part 3 and of promises 20 to 23: patterns and spans. */
public final class EdgeAskTest extends EdgeKit {
    private static void sets() {
        says(0, "up to 12 SETS of SIGNS (each 1 .. 65535)");
        says(20, "THE PATTERN grows by a SET: how many it has. OUTSIDE, FULL.");
        fresh("0f");
        for (String set : new String[] {"0", "-1", "65536", "65537", "LOW", "HIGH"}) {
            refused("sign " + set, OUTSIDE);
        }
        due("sign 1", 1);
        due("sign 65535", 2);
        for (int n = 3; n <= 12; n++) {
            due("sign " + n, n);
        }
        refused("sign 1", FULL);
        refused("sign 65535", FULL);
        refused("sign 0", OUTSIDE);
        refused("sign 65536", OUTSIDE);
        due("count 4", 12);
        says(21, "THE PATTERN is empty: how many SETS it had.");
        due("clear", 12);
        due("count 4", 0);
        due("clear", 0);
        refused("seek 0 0 NONE", NOT);
        due("sign 1", 1);
        due("clear", 1);
        says(0, "A SET is a whole number, bit k for k.");
        fresh("0123456789abcdef");
        for (int k = 0; k < 16; k++) {
            due("sign " + (1 << k), 1);
            due("seek 0 0 NONE", 1);
            due("seek 0 0 0", k);
            due("clear", 1);
        }
        due("sign 65535", 1);
        due("seek 0 0 NONE", 16);
        due("clear", 1);
        due("sign " + (1 << 15 | 1), 1);
        dueList("seek 0 0", 0, 15);
    }

    private static void within() {
        says(0, "from the PLACE on (all of it within)");
        // all twelve SETS have SIGN 1 alone, so a row of n has n - 11 PLACES
        for (int n : new int[] {1, 11, 12, 13, 16, 17, 28, 96}) {
            fresh("1".repeat(n));
            for (int i = 1; i <= 12; i++) {
                due("sign 2", i);
            }
            due("seek 0 0 NONE", Math.max(0, n - 11));
            due("seek 0 3 NONE", Math.max(0, n - 11));
            due("seek 0 0 " + Math.max(0, n - 11), NONE);
            due("seek 0 0 " + Math.max(0, n - 12), n < 12 ? NONE : n - 12);
        }
        fresh("7");
        due("strike 0 0", 1);
        due("sign 65535", 1);
        due("seek 1 0 NONE", 0);
        due("seek 1 3 0", NONE);
        due("seek 0 0 0", 0);
        due("seek 0 0 1", NONE);
    }

    private static void slips() {
        says(0, "Sought are PLACES with at most k SLIPS (0 .. 3).");
        // PLACE p of these has p SLIPS against six 1s
        fresh("1111110000000000");
        for (int i = 1; i <= 6; i++) {
            due("sign 2", i);
        }
        dueList("seek 0 0", 0);
        dueList("seek 0 1", 0, 1);
        dueList("seek 0 2", 0, 1, 2);
        dueList("seek 0 3", 0, 1, 2, 3);
        for (int k = 0; k < 4; k++) {
            due("seek 0 " + k + " NONE", k + 1);
        }
        says(22, "i = NONE how many, else the i-th; NONE: there is none such. UNKNOWN, OUTSIDE (k); NOT: THE PATTERN is empty; TORN.");
        for (String i : new String[] {"-2", "4", "16", "LOW", "HIGH"}) {
            due("seek 0 3 " + i, NONE);
        }
        for (String k : new String[] {"-1", "4", "LOW", "HIGH"}) {
            refused("seek 0 " + k + " NONE", OUTSIDE);
            refused("seek 0 " + k + " 0", OUTSIDE);
            refused("seek 1 " + k + " 0", UNKNOWN);
            refused("seek -1 " + k + " 0", UNKNOWN);
        }
        refused("seek 1 0 NONE", UNKNOWN);
        refused("seek HIGH 0 NONE", UNKNOWN);
        due("tear 0", 1);
        for (String i : new String[] {"NONE", "0", "4", "-2"}) {
            refused("seek 0 0 " + i, TORN);
            refused("seek 0 4 " + i, OUTSIDE);
            refused("seek 1 0 " + i, UNKNOWN);
        }
        due("clear", 6);
        for (String i : new String[] {"NONE", "0", "4", "-2"}) {
            refused("seek 0 0 " + i, NOT);
            refused("seek 0 -1 " + i, OUTSIDE);
            refused("seek 1 0 " + i, UNKNOWN);
        }
    }

    /** Over the edge of two BLOCKS; and fewer SETS than SLIPS stand everywhere. */
    private static void overEdges() {
        says(22, "PLACES at which THE PATTERN STANDS with at most k SLIPS");
        fresh("0".repeat(15) + "1" + "2" + "0".repeat(15) + "1" + "2");
        due("sign 2", 1);
        due("sign 4", 2);
        dueList("seek 0 0", 15, 32);
        due("seek 0 2 NONE", 33);
        due("seek 0 3 NONE", 33);
        due("seek 0 3 32", 32);
        due("seek 0 3 33", NONE);
        due("tear 1", 1);
        refused("seek 0 0 0", TORN);
        due("restore 0", 1);
        dueList("seek 0 0", 15, 32);
    }

    private static void spans() {
        says(0, "from PLACE a to below b: the sum of its SIGNS, the least, the greatest one, which SIGN stands most often (of like ones the least)");
        fresh("3344556677889911" + "2fffff000000");
        int[][] want = {{0, 1, 3, 3, 3, 3}, {27, 28, 0, 0, 0, 0}, {15, 17, 3, 1, 2, 1}, {16, 17, 2, 2, 2, 2}, {15, 16, 1, 1, 1, 1},
            {0, 28, 163, 0, 15, 0}, {0, 16, 86, 1, 9, 1}, {0, 14, 84, 3, 9, 3}, {1, 14, 81, 3, 9, 4}, {12, 22, 97, 1, 15, 15},
            {17, 27, 75, 0, 15, 0}, {16, 22, 77, 2, 15, 15}, {17, 26, 75, 0, 15, 15}};
        for (int[] w : want) {
            for (int what = 0; what < 4; what++) {
                due("span 0 " + w[0] + " " + w[1] + " " + what, w[2 + what]);
            }
        }
        says(23, "UNKNOWN (a, b: 0 up to SIGNS, a below b), OUTSIDE, TORN (only BLOCKS of the SPAN are opened).");
        for (String ab : new String[] {"-1 1", "0 29", "28 28", "28 29", "0 0", "5 5", "6 5", "LOW 5", "5 HIGH", "5 LOW", "HIGH HIGH",
            "LOW HIGH", "HIGH LOW", "-1 -1"}) {
            refused("span 0 " + ab + " 0", UNKNOWN);
            refused("span 0 " + ab + " 4", UNKNOWN);
        }
        refused("span 1 0 1 0", UNKNOWN);
        refused("span -1 0 1 4", UNKNOWN);
        for (String what : new String[] {"-1", "4", "LOW", "HIGH"}) {
            refused("span 0 0 28 " + what, OUTSIDE);
        }
        due("tear 0", 1);
        due("span 0 16 28 0", 77);
        due("span 0 16 17 3", 2);
        refused("span 0 15 28 0", TORN);
        refused("span 0 15 16 0", TORN);
        refused("span 0 0 1 3", TORN);
        refused("span 0 0 1 4", OUTSIDE);
        refused("span 0 15 16 -1", OUTSIDE);
        refused("span 0 0 29 0", UNKNOWN);
        due("restore 0", 1);
        due("tear 1", 1);
        due("span 0 0 16 0", 86);
        due("span 0 15 16 0", 1);
        refused("span 0 15 17 0", TORN);
        refused("span 0 27 28 0", TORN);
        // a TORN one between two others
        fresh("1".repeat(16) + "2".repeat(16) + "3".repeat(16));
        due("tear 1", 1);
        due("span 0 0 16 0", 16);
        due("span 0 32 48 0", 48);
        refused("span 0 15 33 0", TORN);
        refused("span 0 0 48 0", TORN);
        refused("span 0 31 32 0", TORN);
    }

    public static void main(String[] args) {
        sets();
        within();
        slips();
        overEdges();
        spans();
        end(20, 23);
    }
}
