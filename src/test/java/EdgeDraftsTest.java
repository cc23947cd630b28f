/** The edges of the terms' part 1 and of promises 1 to 12: drafts and versions. */
public final class EdgeDraftsTest extends EdgeKit {
    private static final String SIXTEEN = "0123456789abcdef";

    private static String of(int n, char sign) {
        return String.valueOf(sign).repeat(n);
    }

    // ---- all of it

    private static void fiveHundredAndTwelve() {
        says(0, "An object is used for at most 512 calls after it has been made");
        fresh(SIXTEEN);
        while (callsMade() < 508) {
            call("count 0");
        }
        due("put 0 16 9", 1);
        due("tear 1", 1);
        due("restore 1", 1);
        due("open 1 16", 9);
        same("calls made", callsMade(), 512);
    }

    private static void constants() {
        says(0, "public static final int NONE = -1, UNKNOWN = -100001, OUTSIDE = -100002, NOT = -100003, FULL = -100004, TORN = -100005;");
        int[] face = {SignCellar.NONE, SignCellar.UNKNOWN, SignCellar.OUTSIDE, SignCellar.NOT, SignCellar.FULL, SignCellar.TORN};
        int[] want = {-1, -100001, -100002, -100003, -100004, -100005};
        for (int i = 0; i < want.length; i++) {
            same("constant " + i, face[i], want[i]);
        }
    }

    private static void numbersFromZero() {
        says(0, "What has a number has it from 0 on, as it comes.");
        fresh(SIXTEEN + "7", "33");
        dueRow(0, 0, 1);
        dueRow(1, 2);
        due("open 0 0", 0);
        due("open 0 16", 7);
        due("strike 0 0", 2);
        dueRow(2, 3, 1);
        due("count 1", 3);
        due("count 2", 4);
    }

    private static void newObject() {
        says(1, "THE DRAFT, THE PATTERN are empty; no VERSIONS.");
        fresh();
        for (int what = 0; what < 7; what++) {
            due("count " + what, 0);
        }
        due("clear", 0);
        refused("make", NOT);
        String[] ofNothing = {"change 0 0 0", "put 0 0 0", "strike 0 0", "about 0 0", "block 0 0", "open 0 0", "told 0 0",
            "share 0 0", "size 0 0", "time 0 0", "cut 0 NONE", "rule 0 0 0", "bit 0 0", "turned 0 0 0", "best 0 0 NONE",
            "seek 0 0 NONE", "span 0 0 0 0", "tear 0", "sums 0 0 0", "restore 0", "send 0 0 0", "ways 0", "bound 0", "entropy 0 0"};
        for (String call : ofNothing) {
            refused(call, UNKNOWN);
        }
        due("feed 1 5", 1);
        refused("told 0 0", UNKNOWN);
        refused("about 0 0", UNKNOWN);
    }

    // ---- feed, make

    private static void feeding() {
        says(2, "Up to 15 SIGNS (n 1 .. 15) of a long, 4 bits each, the highest of these first, come behind THE DRAFT: how many it has.");
        fresh();
        refused("feed 0 1", OUTSIDE);
        refused("feed -1 1", OUTSIDE);
        refused("feed 16 1", OUTSIDE);
        refused("feed LOW 1", OUTSIDE);
        refused("feed HIGH 1", OUTSIDE);
        due("feed 1 0x9", 1);
        due("feed 15 0x123456789abcdef", 16);
        due("feed 2 0x5", 18);
        due("feed 1 0x0", 19);
        refused("feed 0 0", OUTSIDE);
        refused("feed 16 0x7777777777777777", OUTSIDE);
        due("make", 0);
        dueText(0, "9123456789abcdef" + "050");
        fresh();
        // a SIGN is 4 bits of the long, whatever stands above the n lowest ones
        due("feed 1 -16", 1);
        due("feed 15 -1", 16);
        due("feed 2 -9223372036854775807", 18);
        due("feed 15 0x7edcba9876543210", 33);
        due("make", 0);
        dueText(0, "0fffffffffffffff" + "01" + "edcba987654321" + "0");
    }

    private static void draftOf96() {
        says(0, "THE DRAFT (a row of up to 96 SIGNS)");
        fresh();
        feed(of(80, '3'));
        due("feed 1 1", 81);
        due("feed 15 0x2", 96);
        refused("feed 1 0", FULL);
        refused("feed 15 0", FULL);
        says(2, "OUTSIDE, FULL.");
        refused("feed 0 0", OUTSIDE);
        refused("feed 16 0", OUTSIDE);
        due("make", 0);
        due("about 0 0", 96);
        due("open 0 80", 1);
        due("open 0 95", 2);
        says(0, "THE DRAFT (a row of up to 96 SIGNS)");
        feed(of(82, '4'));
        refused("feed 15 0", FULL);
        due("count 0", 82);
        due("feed 13 0", 95);
        refused("feed 2 0", FULL);
        due("feed 1 0", 96);
        refused("feed 1 0", FULL);
    }

    private static void making() {
        says(3, "MADE: a VERSION from THE DRAFT (it is empty then): its number.");
        fresh();
        feed("12");
        due("make", 0);
        due("count 0", 0);
        refused("make", NOT);
        due("feed 1 3", 1);
        due("make", 1);
        dueText(0, "12");
        dueText(1, "3");
        says(0, "BLOCKS of 16 SIGNS, the last one of what is left");
        for (int n : new int[] {1, 2, 15, 16, 17, 31, 32, 33, 47, 48, 64, 79, 80, 81, 95, 96}) {
            fresh();
            feed(SIXTEEN.repeat(6).substring(0, n));
            due("make", 0);
            due("about 0 0", n);
            int blocks = n % 16 == 0 ? n / 16 : n / 16 + 1;
            due("about 0 1", blocks);
            for (int i = 0; i < blocks; i++) {
                long b = call("block 0 " + i);
                due("told " + b + " 0", i < n / 16 ? 16 : n % 16);
            }
            due("block 0 " + blocks, NONE);
        }
    }

    private static void likeBlocks() {
        says(0, "each is a new one, but where a BLOCK with just these SIGNS is there already (not TORN) that is taken (the least number)");
        fresh(SIXTEEN + SIXTEEN + "0", "0", "01", "10", SIXTEEN.substring(0, 15), SIXTEEN);
        dueRow(0, 0, 0, 1);
        dueRow(1, 1);
        dueRow(2, 2);
        dueRow(3, 3);
        dueRow(4, 4);
        dueRow(5, 0);
        due("count 2", 5);
        // a TORN one is not taken, and of like ones the least that is not TORN is
        due("tear 0", 1);
        due("make", NOT);
        make(SIXTEEN);
        dueRow(6, 5);
        due("about 6 3", 1);
        make(SIXTEEN + SIXTEEN);
        dueRow(7, 5, 5);
        due("about 7 3", 0);
        due("restore 5", 1);
        make(SIXTEEN);
        dueRow(8, 0);
        due("tear 0", 1);
        make(SIXTEEN);
        dueRow(9, 5);
        due("tear 5", 1);
        make(SIXTEEN);
        dueRow(10, 6);
    }

    private static void likeBlocksElsewhere() {
        says(0, "Likewise wherever a BLOCK is to be made below.");
        fresh("12", "13", "123", of(12, '1'), of(13, '1'), of(15, '1'));
        due("change 1 1 2", 6);
        dueRow(6, 0);
        due("put 0 2 3", 7);
        dueRow(7, 2);
        due("strike 2 1", 8);
        dueRow(8, 1);
        for (int v = 9; v <= 17; v++) {
            due("put " + (v == 9 ? 5 : v - 1) + " 0 1", v);
        }
        // of 25, both parts are there already, and of 24 there is none
        due("about 17 3", 1);
        due("put 17 0 1", 18);
        dueRow(18, 3, 4);
        due("about 18 3", 0);
        // TORN ones are not taken here either
        due("tear 0", 1);
        due("tear 2", 1);
        due("tear 4", 1);
        due("change 1 1 2", 19);
        due("about 19 3", 1);
        due("put 19 2 3", 20);
        due("about 20 3", 1);
        due("put 17 0 1", 21);
        due("about 21 3", 1);
        due("block 21 0", 3);
        due("tear 1", 1);
        due("strike 20 1", 22);
        due("about 22 3", 1);
    }

    private static void thirtyVersions() {
        says(0, "FULL: 30 VERSIONS; or BLOCKS that have to be made have no room, be they new or not.");
        says(3, "NOT: THE DRAFT is empty; FULL (VERSIONS, BLOCKS; THE DRAFT stays).");
        fresh("12");
        fillVersions(29);
        refused("make", NOT);
        feed("ab");
        due("make", 29);
        due("count 1", 30);
        refused("make", NOT);
        feed("cd");
        refused("make", FULL);
        due("count 0", 2);
        feed("12");
        refused("make", FULL);
        due("count 0", 4);
        says(0, "A VERSION (30 at most)");
        refused("change 0 0 1", FULL);
        refused("change 0 0 5", FULL);
        refused("put 0 0 1", FULL);
        refused("strike 0 0", FULL);
        refused("strike 28 0", FULL);
        for (String last : new String[] {"change 0 0 5", "put 0 0 5", "strike 0 0"}) {
            fresh("12");
            fillVersions(29);
            due(last, 29);
            refused(last, FULL);
        }
    }

    /** 30 VERSIONS of six new BLOCKS each are the most there can be: 200 are never reached. */
    private static void mostBlocks() {
        says(0, "BLOCKS (200 at most) are numbered as they are made, and never change.");
        fresh();
        for (int v = 0; v < 30; v++) {
            StringBuilder row = new StringBuilder();
            for (int i = 0; i < 6; i++) {
                row.append(String.format("%016x", 6 * v + i));
            }
            feed(row.toString());
            due("make", v);
        }
        due("count 2", 180);
        dueRow(29, 174, 175, 176, 177, 178, 179);
        due("told 179 0", 16);
        due("told 180 0", UNKNOWN);
        due("open 29 95", 179 & 15);
        due("count 5", 180 * 16);
        due("count 6", 180 * 16);
    }

    // ---- change, put, strike

    private static void changing() {
        says(4, "CHANGED: the new VERSION. UNKNOWN, OUTSIDE, FULL, TORN.");
        fresh(SIXTEEN + "00");
        due("change 0 0 15", 1);
        due("change 0 17 15", 2);
        due("change 0 15 0", 3);
        due("change 0 16 1", 4);
        dueText(1, "f123456789abcdef" + "00");
        dueText(2, SIXTEEN + "0f");
        dueText(3, "0123456789abcde0" + "00");
        dueText(4, SIXTEEN + "10");
        dueText(0, SIXTEEN + "00");
        refused("change 0 18 0", UNKNOWN);
        refused("change 0 -1 0", UNKNOWN);
        refused("change 0 HIGH 0", UNKNOWN);
        refused("change 0 LOW 0", UNKNOWN);
        refused("change 5 0 0", UNKNOWN);
        refused("change -1 0 0", UNKNOWN);
        refused("change HIGH 0 0", UNKNOWN);
        refused("change LOW 0 0", UNKNOWN);
        says(0, "SIGNS are 0 to 15.");
        refused("change 0 0 16", OUTSIDE);
        refused("change 0 0 -1", OUTSIDE);
        refused("change 0 0 HIGH", OUTSIDE);
        refused("change 0 0 LOW", OUTSIDE);
        refused("put 0 0 16", OUTSIDE);
        refused("put 0 18 -1", OUTSIDE);
        refused("put 0 0 HIGH", OUTSIDE);
        refused("put 0 0 LOW", OUTSIDE);
        says(0, "the BLOCK of the PLACE with another SIGN there, the others as they are");
        fresh(of(48, '1'));
        due("change 0 16 2", 1);
        dueRow(1, 0, 1, 0);
        due("change 1 31 2", 2);
        dueRow(2, 0, 2, 0);
        due("change 2 32 1", 3);
        dueRow(3, 0, 2, 0);
        due("about 3 3", 0);
        due("about 3 2", 2);
    }

    private static void putting() {
        says(5, "PUT ahead of a PLACE (as many as there are: at the end): the new VERSION.");
        fresh(SIXTEEN + "00");
        due("put 0 0 15", 1);
        dueText(1, "f" + SIXTEEN + "00");
        due("put 0 15 0", 2);
        dueText(2, "0123456789abcde0f" + "00");
        dueRow(2, 3, 1);
        due("put 0 16 5", 3);
        dueRow(3, 0, 4);
        dueText(3, SIXTEEN + "500");
        due("put 0 17 5", 4);
        dueText(4, SIXTEEN + "050");
        due("put 0 18 5", 5);
        dueText(5, SIXTEEN + "005");
        dueRow(5, 0, 6);
        refused("put 0 19 5", UNKNOWN);
        refused("put 0 -1 5", UNKNOWN);
        refused("put 0 HIGH 5", UNKNOWN);
        refused("put 0 LOW 5", UNKNOWN);
        refused("put 6 0 5", UNKNOWN);
        refused("put -1 0 5", UNKNOWN);
        says(0, "(or at the end: the last BLOCK; a first one, if there is none)");
        fresh("7");
        due("strike 0 0", 1);
        refused("put 1 1 4", UNKNOWN);
        refused("put 1 -1 4", UNKNOWN);
        refused("put 1 0 16", OUTSIDE);
        due("put 1 0 4", 2);
        dueRow(2, 1);
        dueText(2, "4");
        due("about 2 2", 1);
        due("about 2 3", 1);
        due("put 1 0 7", 3);
        dueRow(3, 0);
        due("about 3 3", 0);
    }

    private static void splitting() {
        says(0, "A BLOCK is a row of 1 to 24 SIGNS");
        for (int place : new int[] {0, 11, 12, 13, 23, 24}) {
            fresh(of(16, '1') + of(3, '7'));
            for (int v = 0; v < 8; v++) {
                due("put " + v + " 16 2", v + 1);
            }
            due("about 8 1", 2);
            due("put 8 0 3", 9);
            due("told " + call("block 9 0") + " 0", 17);
            for (int v = 9; v < 16; v++) {
                due("put " + v + " 0 3", v + 1);
            }
            due("about 16 1", 2);
            due("told " + call("block 16 0") + " 0", 24);
            says(0, "if that has 25, it is two: the first 12, and the rest");
            due("put 16 " + place + " 9", 17);
            // at PLACE 24 it is the second BLOCK that has it
            if (place < 24) {
                due("about 17 1", 3);
                due("told " + call("block 17 0") + " 0", 12);
                due("told " + call("block 17 1") + " 0", 13);
                due("block 17 2", call("block 16 1"));
            } else {
                due("about 17 1", 2);
                due("block 17 0", call("block 16 0"));
            }
            String all = of(8, '3') + of(16, '1') + of(8, '2') + of(3, '7');
            dueText(17, all.substring(0, place) + "9" + all.substring(place));
        }
        says(0, "(or at the end: the last BLOCK; a first one, if there is none)");
        fresh(of(16, '1'));
        for (int v = 0; v < 8; v++) {
            due("put " + v + " " + (16 + v) + " 2", v + 1);
        }
        due("about 8 1", 1);
        due("put 8 24 3", 9);
        dueText(9, of(12, '1') + of(4, '1') + of(8, '2') + "3");
        due("about 9 1", 2);
        due("about 9 3", 2);
    }

    /** VERSION 26 has eight BLOCKS, and that of PLACES 25 to 48 has 24 SIGNS. */
    private static void eightBlocks() {
        fresh(of(16, '0') + of(16, '1') + of(16, '2') + of(16, '3') + of(16, '4') + of(16, '5'));
        for (int v = 0; v < 26; v++) {
            due("put " + v + " " + (v < 9 ? "0 10" : v < 18 ? 96 + v + " 11" : "25 12"), v + 1);
        }
        due("about 26 1", 8);
        due("told " + call("block 26 2") + " 0", 24);
    }

    private static void nineBlocks() {
        says(0, "(FULL, too: with 9 BLOCKS then)");
        eightBlocks();
        refused("put 26 25 0", FULL);
        refused("put 26 48 0", FULL);
        due("put 26 24 0", 27);
        due("about 27 1", 8);
        due("put 26 49 0", 28);
        due("about 28 1", 8);
        says(5, "UNKNOWN, OUTSIDE, FULL, TORN.");
        refused("put 26 25 16", OUTSIDE);
        refused("put 26 123 0", UNKNOWN);
        call("tear " + call("block 26 0"));
        refused("put 26 25 0", FULL);
        refused("put 26 24 0", TORN);
        due("restore 26", 1);
        due("put 26 0 0", 29);
        says(0, "is a row of up to 8 BLOCKS");
        eightBlocks();
        // with eight BLOCKS all else is done as with fewer
        due("change 26 25 0", 27);
        due("about 27 1", 8);
        due("strike 26 25", 28);
        due("put 28 25 9", 29);
        due("about 29 1", 8);
        due("block 29 7", call("block 26 7"));
        due("block 29 8", NONE);
    }

    private static void striking() {
        says(6, "STRUCK: the new VERSION. UNKNOWN, FULL, TORN.");
        fresh(SIXTEEN + "77");
        due("strike 0 0", 1);
        dueText(1, "123456789abcdef" + "77");
        due("strike 0 15", 2);
        dueText(2, "0123456789abcde" + "77");
        due("strike 0 16", 3);
        due("strike 0 17", 4);
        due("block 4 1", call("block 3 1"));
        dueRow(3, 0, 4);
        refused("strike 0 18", UNKNOWN);
        refused("strike 0 -1", UNKNOWN);
        refused("strike 0 HIGH", UNKNOWN);
        refused("strike 0 LOW", UNKNOWN);
        refused("strike 5 0", UNKNOWN);
        refused("strike -1 0", UNKNOWN);
        says(0, "the BLOCK without it; without SIGNS it is left out");
        due("strike 3 16", 5);
        dueRow(5, 0);
        due("about 5 3", 0);
        fresh("5");
        due("put 0 0 6", 1);
        due("strike 1 0", 2);
        dueRow(2, 0);
        due("strike 2 0", 3);
        dueRow(3);
        due("about 3 2", 2);
        // the first and a middle one are left out too
        fresh(of(16, '1') + of(16, '2') + of(16, '3'));
        for (int v = 0; v < 15; v++) {
            due("strike " + v + " 16", v + 1);
        }
        due("about 15 1", 3);
        due("strike 15 16", 16);
        dueRow(16, 0, 2);
        for (int v = 16; v < 29; v++) {
            due("strike " + v + " 0", v + 1);
        }
        due("about 29 0", 19);
    }

    private static void withoutBlocks() {
        says(0, "(of a VERSION without BLOCKS: none)");
        fresh("7");
        due("strike 0 0", 1);
        due("about 1 0", 0);
        due("about 1 1", 0);
        due("about 1 2", 0);
        due("about 1 3", 0);
        due("about 1 4", 0);
        due("block 1 0", NONE);
        refused("open 1 0", UNKNOWN);
        refused("change 1 0 0", UNKNOWN);
        refused("strike 1 0", UNKNOWN);
        refused("span 1 0 0 0", UNKNOWN);
        refused("span 1 0 1 0", UNKNOWN);
        refused("restore 1", NOT);
        due("share 1 1", 0);
        due("share 0 1", 0);
        due("send 1 1 0", 0);
        due("send 1 1 2", 0);
        due("send 0 1 0", 0);
        due("send 0 1 2", 1);
        due("send 1 0 0", 7);
        due("send 1 0 2", 1);
    }

    private static void notOfTornOnes() {
        says(0, "None of these is made of a VERSION that has a TORN BLOCK.");
        fresh(SIXTEEN + "7", SIXTEEN);
        due("tear 1", 1);
        for (int place : new int[] {0, 15, 16}) {
            refused("change 0 " + place + " 3", TORN);
            refused("put 0 " + place + " 3", TORN);
            refused("strike 0 " + place, TORN);
        }
        refused("put 0 17 3", TORN);
        due("change 1 0 3", 2);
        due("put 1 16 3", 3);
        due("strike 1 15", 4);
        due("restore 0", 1);
        due("change 0 16 3", 5);
        due("put 0 17 3", 6);
        due("strike 0 16", 7);
    }

    // ---- what is asked of them

    private static void asking() {
        says(7, "Of a VERSION: what = 0 SIGNS, 1 BLOCKS, 2 the VERSION that it was made of (NONE), 3 BLOCKS that were new with it, 4 BLOCKS of it that are TORN. UNKNOWN, OUTSIDE.");
        fresh(SIXTEEN + SIXTEEN + "7");
        due("strike 0 32", 1);
        due("put 1 0 5", 2);
        due("change 2 0 6", 3);
        dueList("block 0", 0, 0, 1);
        int[][] want = {{33, 3, NONE, 2, 0}, {32, 2, 0, 0, 0}, {33, 2, 1, 1, 0}, {33, 2, 2, 1, 0}};
        for (int v = 0; v < 4; v++) {
            for (int what = 0; what < 5; what++) {
                due("about " + v + " " + what, want[v][what]);
            }
        }
        due("tear 1", 1);
        due("about 0 4", 1);
        due("about 1 4", 0);
        for (String what : new String[] {"-1", "5", "LOW", "HIGH"}) {
            refused("about 0 " + what, OUTSIDE);
            refused("about 4 " + what, UNKNOWN);
        }
        refused("about -1 0", UNKNOWN);
        refused("about LOW 0", UNKNOWN);
        refused("about HIGH 0", UNKNOWN);
        says(8, "The i-th BLOCK of a VERSION; NONE. UNKNOWN.");
        dueList("block 1", 0, 0);
        for (String i : new String[] {"-1", "-2", "2", "8", "LOW", "HIGH"}) {
            due("block 1 " + i, NONE);
            refused("block 4 " + i, UNKNOWN);
        }
        refused("block -1 0", UNKNOWN);
        says(9, "The SIGN at a PLACE. UNKNOWN, TORN.");
        due("open 0 0", 0);
        due("open 0 31", 15);
        refused("open 0 32", TORN);
        for (String place : new String[] {"-1", "33", "LOW", "HIGH"}) {
            refused("open 0 " + place, UNKNOWN);
        }
        refused("open 4 0", UNKNOWN);
        refused("open -1 0", UNKNOWN);
    }

    private static void askingOfBlocks() {
        says(10, "Of a BLOCK: what = 0 SIGNS, 1 whether it is TORN (1, 0), 2 in how many VERSIONS it stands. UNKNOWN, OUTSIDE.");
        fresh(SIXTEEN + SIXTEEN + "7");
        due("change 0 32 8", 1);
        due("tear 1", 1);
        int[][] want = {{16, 0, 2}, {1, 1, 1}, {1, 0, 1}};
        for (int b = 0; b < 3; b++) {
            for (int what = 0; what < 3; what++) {
                due("told " + b + " " + what, want[b][what]);
            }
        }
        for (String what : new String[] {"-1", "3", "LOW", "HIGH"}) {
            refused("told 0 " + what, OUTSIDE);
            refused("told 1 " + what, OUTSIDE);
            refused("told 3 " + what, UNKNOWN);
        }
        refused("told -1 0", UNKNOWN);
        refused("told LOW 0", UNKNOWN);
        refused("told HIGH 0", UNKNOWN);
        says(11, "How many: 0 SIGNS of THE DRAFT, 1 VERSIONS, 2 BLOCKS, 3 TORN ones, 4 SETS of THE PATTERN, 5 SIGNS of all BLOCKS, 6 SIGNS of all VERSIONS. OUTSIDE.");
        feed("12345");
        due("sign 3", 1);
        due("sign 3", 2);
        int[] counts = {5, 2, 3, 1, 2, 18, 66};
        for (int what = 0; what < 7; what++) {
            due("count " + what, counts[what]);
        }
        for (String what : new String[] {"-1", "7", "LOW", "HIGH"}) {
            refused("count " + what, OUTSIDE);
        }
        says(12, "How many unlike BLOCKS stand in both of two VERSIONS. UNKNOWN.");
        due("share 0 1", 1);
        due("share 0 0", 2);
        due("share 1 0", 1);
        refused("share 0 2", UNKNOWN);
        refused("share 2 0", UNKNOWN);
        refused("share -1 0", UNKNOWN);
        refused("share 0 -1", UNKNOWN);
        refused("share HIGH LOW", UNKNOWN);
    }

    public static void main(String[] args) {
        fiveHundredAndTwelve();
        constants();
        numbersFromZero();
        newObject();
        feeding();
        draftOf96();
        making();
        likeBlocks();
        likeBlocksElsewhere();
        thirtyVersions();
        mostBlocks();
        changing();
        putting();
        splitting();
        nineBlocks();
        striking();
        withoutBlocks();
        notOfTornOnes();
        asking();
        askingOfBlocks();
        end(1, 12);
    }
}
