/** The edges of the terms' part 2 and of promises 13 to 19: squeezing. */
public final class EdgeSqueezeTest extends EdgeKit {
    /** BLOCK 0 of these SIGNS, then the number of the BLOCK with all of them (up to 24: the rest is put behind). */
    private static long whole(String hex) {
        fresh(hex.substring(0, Math.min(16, hex.length())));
        for (int i = 16; i < hex.length(); i++) {
            due("put " + (i - 16) + " " + i + " 0x" + hex.charAt(i), i - 15);
        }
        return call("block " + Math.max(0, hex.length() - 16) + " 0");
    }

    private static void dueSizes(long b, int... want) {
        for (int kind = 0; kind < want.length; kind++) {
            due("size " + b + " " + kind, want[kind]);
        }
    }

    private static void dueTimes(long b, int... want) {
        for (int kind = 0; kind < want.length; kind++) {
            due("time " + b + " " + kind, want[kind]);
        }
    }

    // ---- SIZE and TIME

    private static void sizes() {
        says(13, "SIZE of a BLOCK by a KIND (0 .. 4). UNKNOWN, OUTSIDE, TORN.");
        fresh("5", "12");
        dueSizes(0, 4, 5, 5, 6, 10);
        for (String kind : new String[] {"-1", "5", "LOW", "HIGH"}) {
            refused("size 0 " + kind, OUTSIDE);
            refused("time 0 " + kind, OUTSIDE);
            refused("size 2 " + kind, UNKNOWN);
            refused("time 2 " + kind, UNKNOWN);
        }
        refused("size -1 0", UNKNOWN);
        refused("size HIGH 0", UNKNOWN);
        due("tear 0", 1);
        for (int kind = 0; kind < 5; kind++) {
            refused("size 0 " + kind, TORN);
            refused("time 0 " + kind, TORN);
        }
        due("size 1 0", 8);
        due("time 1 0", 2);
        due("restore 0", 1);
        dueSizes(0, 4, 5, 5, 6, 10);
        says(14, "TIME, likewise. UNKNOWN, OUTSIDE, TORN.");
        dueTimes(0, 1, 2, 2, 6, 3);
        refused("time -1 0", UNKNOWN);
        refused("time HIGH 0", UNKNOWN);
        // 24 SIGNS: the longest BLOCK
        long b = whole("0".repeat(24));
        dueSizes(b, 96, 5 + 3 * 11, 3 * 5 + 3 * 11, 39, 24 + 5);
        dueTimes(b, 24, 24 + 4, 48 + 3, 144, 72);
    }

    // ---- MATES

    private static void cuts(String hex, int... want) {
        long b = whole(hex);
        due("cut " + b + " NONE", want.length);
        dueList("cut " + b, want);
        int price = 0;
        for (int piece : want) {
            price += piece == 0 ? 5 : 11;
        }
        due("size " + b + " 1", price);
        due("time " + b + " 1", want.length + hex.length());
    }

    private static void mates() {
        says(0, "a MATE of a length 2 to 9");
        cuts("7", 0);
        cuts("777", 0, 0, 0);
        cuts("7777", 0, 16 * 3 + 1);
        cuts("7".repeat(10), 0, 16 * 9 + 1);
        says(0, "a lone SIGN ahead of MATES");
        cuts("7".repeat(11), 0, 0, 16 * 9 + 1);
        cuts("7".repeat(12), 0, 0, 0, 16 * 9 + 1);
        says(0, "the shorter MATE, then the nearer one ahead");
        cuts("7".repeat(13), 0, 16 * 3 + 1, 16 * 9 + 1);
        cuts("7".repeat(19), 0, 16 * 9 + 1, 16 * 9 + 1);
        cuts("7".repeat(20), 0, 0, 16 * 9 + 1, 16 * 9 + 1);
        cuts("123412351236", 0, 0, 0, 0, 16 * 3 + 4, 0, 16 * 3 + 4, 0);
        cuts("12345123912345", 0, 0, 0, 0, 0, 16 * 3 + 5, 0, 16 * 5 + 9);
        says(0, "so many SIGNS back (1 .. 15) from its beginning");
        cuts("0123456789abcde" + "012", 0, 0, 0, 0, 0, 0, 0, 0, 0, 0, 0, 0, 0, 0, 0, 16 * 3 + 15);
        cuts("0123456789abcdef" + "123", 0, 0, 0, 0, 0, 0, 0, 0, 0, 0, 0, 0, 0, 0, 0, 0, 16 * 3 + 15);
        cuts("0123456789abcdef" + "012", 0, 0, 0, 0, 0, 0, 0, 0, 0, 0, 0, 0, 0, 0, 0, 0, 0, 0, 0);
        says(0, "(it may reach into itself)");
        cuts("0101010", 0, 0, 16 * 5 + 2);
        cuts("01201201201", 0, 0, 0, 16 * 8 + 3);
        says(15, "i = NONE how many pieces, else the i-th: 0 a lone SIGN, else 16 times its length and how far back; NONE: there is none such. UNKNOWN, TORN.");
        fresh("7777");
        due("cut 0 NONE", 2);
        for (String i : new String[] {"-2", "2", "24", "LOW", "HIGH"}) {
            due("cut 0 " + i, NONE);
            refused("cut 1 " + i, UNKNOWN);
        }
        refused("cut 1 NONE", UNKNOWN);
        refused("cut -1 0", UNKNOWN);
        refused("cut LOW 0", UNKNOWN);
        due("tear 0", 1);
        for (String i : new String[] {"NONE", "0", "2", "-2", "LOW", "HIGH"}) {
            refused("cut 0 " + i, TORN);
        }
    }

    // ---- RULES

    /** What: how many RULES are left, and how many there were. */
    private static void rules(String hex, int left, int ahead, int... row) {
        long b = whole(hex);
        due("rule " + b + " 0 0", row.length);
        due("rule " + b + " 1 0", left);
        due("rule " + b + " 2 0", ahead);
        dueList("rule " + b + " 3", row);
        due("rule " + b + " 3 NONE", NONE);
        due("rule " + b + " 4 " + ahead, NONE);
        due("time " + b + " 2", 2 * hex.length() + left);
    }

    private static void rule(long b, int i, int... pieces) {
        due("rule " + b + " 4 " + i, pieces.length);
        for (int k = 0; k < pieces.length; k++) {
            due("rule " + b + " " + (10 + k) + " " + i, pieces[k]);
        }
        due("rule " + b + " " + (10 + pieces.length) + " " + i, NONE);
    }

    private static void pairs() {
        says(0, "as long as two pieces side by side stand twice or more in the row (counted from the left, none taken twice over)");
        rules("5", 0, 0, 5);
        rules("1213", 0, 0, 1, 2, 1, 3);
        rules("1212", 1, 1, 16, 16);
        rule(0, 0, 1, 2);
        due("size 0 2", 21);
        rules("555", 0, 0, 5, 5, 5);
        rules("5555", 1, 1, 16, 16);
        rules("55555", 1, 1, 16, 16, 5);
        says(0, "the pair that stands most often (of like ones the first by its former, then its latter piece; SIGNS as they are, RULE k as 16 and k)");
        rules("1212343434", 2, 2, 17, 17, 16, 16, 16);
        rule(0, 0, 3, 4);
        rule(0, 1, 1, 2);
        rules("91918282", 2, 2, 17, 17, 16, 16);
        rule(0, 0, 8, 2);
        rule(0, 1, 9, 1);
        rules("82829191", 2, 2, 16, 16, 17, 17);
        rule(0, 0, 8, 2);
        rules("53a52b53c52", 2, 2, 17, 10, 16, 11, 17, 12, 16);
        rule(0, 0, 5, 2);
        rule(0, 1, 5, 3);
        rules("52a53b52c53", 2, 2, 16, 10, 17, 11, 16, 12, 17);
        rule(0, 0, 5, 2);
        rule(0, 1, 5, 3);
        rules("012012fefe01", 3, 3, 18, 18, 17, 17, 16);
        rule(0, 0, 0, 1);
        rule(0, 1, 15, 14);
        rule(0, 2, 16, 2);
        says(0, "one that stands less than twice in the row and in all RULES is put back where it stands");
        rules("0123012", 1, 2, 17, 3, 17);
        rule(0, 0);
        rule(0, 1, 0, 1, 2);
        due("size 0 2", 31);
        // once in the row and once in a RULE is twice
        rules("0120123014", 2, 2, 17, 17, 3, 16, 4);
        rule(0, 0, 0, 1);
        rule(0, 1, 16, 2);
        // the most RULES that a BLOCK can have, of which one is left
        rules("0123456789ab0123456789ab", 1, 11, 26, 26);
        rule(8, 9);
        rule(8, 10, 0, 1, 2, 3, 4, 5, 6, 7, 8, 9, 10, 11);
        due("size 8 2", 10 + 60 + 1);
    }

    private static void rulesAsked() {
        says(16, "10 and k the k-th piece of RULE i; NONE: there is none such. UNKNOWN, OUTSIDE (what below 0, 5 to 9), TORN.");
        fresh("0123012");
        for (String what : new String[] {"-1", "5", "6", "7", "8", "9", "LOW"}) {
            refused("rule 0 " + what + " 0", OUTSIDE);
            refused("rule 1 " + what + " 0", UNKNOWN);
        }
        refused("rule 1 0 0", UNKNOWN);
        refused("rule -1 0 0", UNKNOWN);
        for (String i : new String[] {"-1", "-2", "2", "12", "LOW", "HIGH"}) {
            due("rule 0 4 " + i, NONE);
            due("rule 0 10 " + i, NONE);
            due("rule 0 0 " + i, 3);
            due("rule 0 1 " + i, 1);
            due("rule 0 2 " + i, 2);
        }
        for (String i : new String[] {"-1", "-2", "3", "24", "LOW", "HIGH"}) {
            due("rule 0 3 " + i, NONE);
        }
        due("rule 0 12 1", 2);
        due("rule 0 13 1", NONE);
        due("rule 0 HIGH 1", NONE);
        due("rule 0 HIGH HIGH", NONE);
        says(16, "4 how many pieces RULE i has (0: it is not left)");
        due("rule 0 4 0", 0);
        due("rule 0 10 0", NONE);
        due("rule 0 4 1", 3);
        due("tear 0", 1);
        for (String what : new String[] {"0", "1", "2", "3", "4", "10", "HIGH"}) {
            refused("rule 0 " + what + " 0", TORN);
            refused("rule 0 " + what + " NONE", TORN);
        }
        refused("rule 0 -1 0", OUTSIDE);
        refused("rule 0 5 0", OUTSIDE);
        refused("rule 0 9 0", OUTSIDE);
    }

    // ---- ODDS

    private static void bits(String hex, String want) {
        long b = whole(hex);
        for (int i = 0; i < want.length(); i++) {
            due("bit " + b + " " + i, want.charAt(i) - '0');
        }
        due("bit " + b + " " + want.length(), NONE);
        due("size " + b + " 3", want.length());
        due("time " + b + " 3", 6 * hex.length());
    }

    private static void odds() {
        says(0, "1 more for each time that it stood behind the same SIGN as now (ahead of the first one: none) in this BLOCK already");
        bits("0", "0000" + "01");
        bits("00", "0000" + "0000" + "01");
        bits("000", "0000" + "0000" + "000" + "01");
        // what other BLOCKS have is not learned
        fresh("5".repeat(17));
        due("size 1 3", 6);
        says(0, "CODED: low 0, high 65535, put off 0.");
        bits("f", "1111" + "01");
        bits("f1", "1111" + "0001" + "01");
        says(0, "if high is below 32768: a bit 0; else if low is 32768 or more: a bit 1, and 32768 is taken off both");
        bits("7", "0111" + "01");
        bits("8", "1000" + "01");
        bits("558c85", "0101010110010011010011111");
        bits("3322", "00110011001000000");
        says(0, "else if low is 16384 or more and high below 49152: put off grows by 1, and 16384 is taken off both");
        bits("00f00", "000000001111000011111");
        bits("77e77", "011101111110100011011");
        bits("aaaafaaaaaeaaa", "101010101010110000111111100001000000110100");
        bits("555f555f55555f555", "01010101011010000100101101001101011010100110101");
        says(0, "With a bit all that was put off comes behind it as contrary bits, and nothing is put off.");
        bits("bb88008", "101110110111111111111111111111");
        says(0, "At the end put off grows by 1, and comes a bit: 0, if low is below 16384, else 1.");
        bits("550550", "010101010000010100000110");
        bits("996", "1001100101100");
        says(17, "Bit i of a BLOCK CODED; NONE. UNKNOWN, TORN.");
        fresh("5");
        dueList("bit 0", 0, 1, 0, 1, 0, 1);
        for (String i : new String[] {"-1", "-2", "6", "256", "LOW", "HIGH"}) {
            due("bit 0 " + i, NONE);
            refused("bit 1 " + i, UNKNOWN);
        }
        refused("bit -1 0", UNKNOWN);
        refused("bit HIGH 0", UNKNOWN);
        due("tear 0", 1);
        for (String i : new String[] {"-1", "0", "5", "6", "HIGH"}) {
            refused("bit 0 " + i, TORN);
        }
    }

    // ---- TURNED

    private static void turned(String hex, int end, int[] signs, int[] places) {
        long b = whole(hex);
        due("turned " + b + " 0 0", end);
        dueList("turned " + b + " 1", signs);
        dueList("turned " + b + " 2", places);
        due("time " + b + " 4", 3 * hex.length());
    }

    private static void turns() {
        says(0, "the BLOCK with an end (less than all SIGNS) behind it, all its n and 1 turns sorted");
        turned("5", 1, new int[] {5}, new int[] {5});
        turned("00", 2, new int[] {0, 0}, new int[] {0, 0});
        turned("01", 1, new int[] {1, 0}, new int[] {1, 1});
        turned("10", 2, new int[] {0, 1}, new int[] {0, 1});
        turned("101", 3, new int[] {1, 1, 0}, new int[] {1, 0, 1});
        turned("f0f", 3, new int[] {15, 15, 0}, new int[] {15, 0, 1});
        says(0, "each SIGN is its place in the row of all SIGNS (0 .. 15 at first), which then goes to the front");
        turned("3210", 4, new int[] {0, 1, 2, 3}, new int[] {0, 1, 2, 3});
        turned("2222", 4, new int[] {2, 2, 2, 2}, new int[] {2, 0, 0, 0});
        says(0, "place v costs 1, and 2 for each time v and 1 can be halved (cut) till it is 1. SIZE: the sum and 5");
        int[] costs = {1, 3, 3, 5, 5, 5, 5, 7, 7, 7, 7, 7, 7, 7, 7, 9};
        fresh();
        for (int v = 0; v < 16; v++) {
            due("feed 1 " + v, 1);
            due("make", v);
            due("size " + v + " 4", 5 + costs[v]);
        }
        says(18, "TURNED: what = 0 the place of the end among the turns, 1 the i-th SIGN (the end left out), 2 its place in the row of SIGNS; NONE: there is none such. UNKNOWN, OUTSIDE, TORN.");
        fresh("101");
        for (String i : new String[] {"-1", "-2", "3", "24", "LOW", "HIGH"}) {
            due("turned 0 0 " + i, 3);
            due("turned 0 1 " + i, NONE);
            due("turned 0 2 " + i, NONE);
            refused("turned 1 1 " + i, UNKNOWN);
        }
        due("turned 0 1 2", 0);
        due("turned 0 2 2", 1);
        for (String what : new String[] {"-1", "3", "LOW", "HIGH"}) {
            refused("turned 0 " + what + " 0", OUTSIDE);
            refused("turned 1 " + what + " 0", UNKNOWN);
        }
        refused("turned -1 0 0", UNKNOWN);
        due("tear 0", 1);
        for (int what = 0; what < 3; what++) {
            refused("turned 0 " + what + " 0", TORN);
            refused("turned 0 " + what + " 3", TORN);
        }
        refused("turned 0 3 0", OUTSIDE);
        refused("turned 0 -1 0", OUTSIDE);
    }

    // ---- THE BEST

    private static void dueBest(int v, int t, int size, int time, int... kinds) {
        due("best " + v + " " + t + " NONE", size);
        due("best " + v + " " + t + " -2", time);
        dueList("best " + v + " " + t, kinds);
    }

    private static void best() {
        says(0, "all TIMES together t at most: the least SIZE in all; of several the first by BLOCKS (the lesser KIND)");
        // PLAIN and MATES have 16, ODDS and TURNED 15
        fresh("7777");
        dueSizes(0, 16, 16, 21, 15, 15);
        dueTimes(0, 4, 6, 9, 24, 12);
        refused("best 0 3 NONE", NOT);
        dueBest(0, 4, 16, 4, 0);
        dueBest(0, 11, 16, 4, 0);
        dueBest(0, 12, 15, 12, 4);
        dueBest(0, 23, 15, 12, 4);
        dueBest(0, 24, 15, 24, 3);
        dueBest(0, 9999, 15, 24, 3);
        // two like BLOCKS and TIME for one: the former stays PLAIN
        fresh("0".repeat(16) + "1".repeat(16) + "5");
        dueSizes(0, 64, 27, 43, 33, 21);
        dueSizes(1, 64, 27, 43, 33, 23);
        dueBest(0, 33, 132, 33, 0, 0, 0);
        dueBest(0, 35, 132, 33, 0, 0, 0);
        dueBest(0, 36, 64 + 27 + 4, 36, 0, 1, 0);
        dueBest(0, 38, 64 + 27 + 4, 36, 0, 1, 0);
        dueBest(0, 39, 27 + 27 + 4, 39, 1, 1, 0);
        dueBest(0, 67, 27 + 27 + 4, 39, 1, 1, 0);
        dueBest(0, 68, 21 + 27 + 4, 68, 4, 1, 0);
        dueBest(0, 96, 21 + 27 + 4, 68, 4, 1, 0);
        dueBest(0, 97, 21 + 23 + 4, 97, 4, 4, 0);
        dueBest(0, 9999, 21 + 23 + 4, 97, 4, 4, 0);
        says(0, "within a TIME t (0 .. 9999)");
        for (String t : new String[] {"-1", "10000", "LOW", "HIGH"}) {
            refused("best 0 " + t + " NONE", OUTSIDE);
            refused("best 1 " + t + " NONE", UNKNOWN);
        }
        says(19, "THE BEST of a VERSION: i = NONE its SIZE, -2 its TIME, else the KIND of its i-th BLOCK; NONE: there is none such.");
        due("best 0 97 2", 0);
        due("best 0 97 3", NONE);
        due("best 0 97 8", NONE);
        due("best 0 97 HIGH", NONE);
        says(19, "UNKNOWN, OUTSIDE (t; i below -2), TORN (ahead of NOT); NOT: no choice does.");
        for (String i : new String[] {"-3", "LOW"}) {
            refused("best 0 97 " + i, OUTSIDE);
            refused("best 0 0 " + i, OUTSIDE);
            refused("best 1 97 " + i, UNKNOWN);
        }
        for (String i : new String[] {"NONE", "-2", "0", "2", "3", "HIGH"}) {
            refused("best 0 32 " + i, NOT);
            refused("best 0 0 " + i, NOT);
            refused("best 1 32 " + i, UNKNOWN);
        }
        refused("best -1 0 0", UNKNOWN);
        due("tear 2", 1);
        for (String i : new String[] {"NONE", "-2", "0", "3"}) {
            refused("best 0 32 " + i, TORN);
            refused("best 0 33 " + i, TORN);
            refused("best 0 9999 " + i, TORN);
        }
        refused("best 0 0 -3", OUTSIDE);
        refused("best 0 -1 0", OUTSIDE);
        refused("best 0 10000 0", OUTSIDE);
        // without BLOCKS no TIME is enough
        fresh("7");
        due("strike 0 0", 1);
        dueBest(1, 0, 0, 0);
        dueBest(1, 9999, 0, 0);
        refused("best 1 0 -3", OUTSIDE);
        refused("best 0 0 NONE", NOT);
        dueBest(0, 1, 4, 1, 0);
    }

    /** Six BLOCKS of which ODDS are the smallest each: the longest TIME that is worth it. */
    private static void bestOfOdds() {
        says(0, "all TIMES together t at most: the least SIZE in all; of several the first by BLOCKS (the lesser KIND)");
        fresh("8bbbbbbbb5559888" + "c7777ddaaaaac77d" + "aa07778778888888" + "55eeeeeecc566eee" + "ccccaccc33dddddd" + "caacccccc66daaaa");
        int[] odds = {53, 56, 54, 55, 54, 56};
        int[] turned = {57, 57, 59, 59, 55, 61};
        for (int b = 0; b < 6; b++) {
            due("size " + b + " 3", odds[b]);
            due("size " + b + " 4", turned[b]);
        }
        dueBest(0, 576, 328, 576, 3, 3, 3, 3, 3, 3);
        dueBest(0, 9999, 328, 576, 3, 3, 3, 3, 3, 3);
        // two BLOCKS can be TURNED for one bit more: the latter is
        dueBest(0, 575, 329, 528, 3, 3, 3, 3, 4, 3);
        dueBest(0, 528, 329, 528, 3, 3, 3, 3, 4, 3);
        dueBest(0, 527, 330, 480, 3, 4, 3, 3, 4, 3);
    }

    /** What was asked of a BLOCK or a VERSION ahead of it leaves nothing behind. */
    private static void oneAfterAnother() {
        says(0, "BLOCKS (200 at most) are numbered as they are made, and never change.");
        fresh("0123012301230123" + "7777", "5", "1212", "1234");
        for (int again = 0; again < 2; again++) {
            dueBest(0, 9999, 33 + 15, 48 + 24, 4, 3);
            dueBest(0, 20, 64 + 16, 20, 0, 0);
            dueBest(1, 9999, 4, 1, 0);
            dueSizes(0, 64, 42, 42, 51, 33);
            dueSizes(1, 16, 16, 21, 15, 15);
            dueSizes(2, 4, 5, 5, 6, 10);
            dueList("cut 0", 0, 0, 0, 0, 16 * 3 + 4, 16 * 9 + 4);
            dueList("cut 2", 0);
            dueList("cut 1", 0, 16 * 3 + 1);
            dueList("rule 0 3", 19, 19);
            due("rule 0 4 3", 2);
            dueList("rule 3 3", 16, 16);
            for (int i = 1; i < 5; i++) {
                due("rule 3 4 " + i, NONE);
                due("rule 3 10 " + i, NONE);
                due("rule 4 4 " + (i - 1), NONE);
                due("rule 4 10 " + (i - 1), NONE);
            }
            dueList("bit 2", 0, 1, 0, 1, 0, 1);
            dueList("turned 0 1", 3, 3, 3, 3, 0, 0, 0, 0, 1, 1, 1, 1, 2, 2, 2, 2);
            dueList("turned 2 1", 5);
            dueList("turned 2 2", 5);
            // NONE is also far behind the last one, where longer rows have been
            for (int i = 2; i < 6; i++) {
                due("cut 2 " + i, NONE);
                due("bit 2 " + 7 * i, NONE);
                due("turned 2 1 " + i, NONE);
                due("turned 2 2 " + i, NONE);
                due("rule 2 3 " + i, NONE);
                due("best 1 9999 " + i, NONE);
                due("block 1 " + i, NONE);
            }
        }
        // RULE 2 of the first has RULE 0; of the second that stands once and is cleaned
        fresh("012012fefe01", "0123012");
        due("rule 0 10 2", 16);
        due("rule 1 4 0", 0);
        due("rule 1 1 0", 1);
        // no TIME is enough for no BLOCKS, though it was not for one
        fresh("7");
        due("strike 0 0", 1);
        due("best 0 0 NONE", NOT);
        dueBest(1, 0, 0, 0);
    }

    /** VERSION 18 has eight BLOCKS, the most there are: two of 12, four of 16 and two of 13 SIGNS. */
    private static void bestOfEight() {
        says(19, "THE BEST of a VERSION: i = NONE its SIZE, -2 its TIME, else the KIND of its i-th BLOCK");
        fresh("0".repeat(16) + "1".repeat(16) + "2".repeat(16) + "3".repeat(16) + "4".repeat(16) + "5".repeat(16));
        for (int v = 0; v < 18; v++) {
            due("put " + v + " " + (v < 9 ? 0 : 96 + v) + " 0", v + 1);
        }
        int[] row = {14, 15, 1, 2, 3, 4, 24, 25};
        int[] turned = {17, 18, 23, 23, 25, 25, 21, 22};
        dueRow(18, row);
        int size = 0;
        for (int i = 0; i < 8; i++) {
            due("size " + row[i] + " 4", turned[i]);
            size += turned[i];
        }
        refused("best 18 113 NONE", NOT);
        dueBest(18, 114, 4 * 114, 114, 0, 0, 0, 0, 0, 0, 0, 0);
        dueBest(18, 342, size, 342, 4, 4, 4, 4, 4, 4, 4, 4);
        dueBest(18, 9999, size, 342, 4, 4, 4, 4, 4, 4, 4, 4);
    }

    public static void main(String[] args) {
        sizes();
        mates();
        pairs();
        rulesAsked();
        odds();
        turns();
        best();
        bestOfOdds();
        bestOfEight();
        oneAfterAnother();
        end(13, 19);
    }
}
