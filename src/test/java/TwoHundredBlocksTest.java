import java.lang.reflect.Field;

/**
 * FULL by BLOCKS. No run of calls gets to 200 BLOCKS, as 30 VERSIONS have six new ones each at most; so here the object is
 * told by hand that it has more BLOCKS than were made. It is the one test that knows a name inside the class.
 */
public final class TwoHundredBlocksTest extends EdgeKit {
    private static final String SIX = "0".repeat(16) + "1".repeat(16) + "2".repeat(16) + "3".repeat(16) + "4".repeat(16) + "5".repeat(16);

    private static SignCellar x;

    private static void feedAll(String hex) {
        for (char c : hex.toCharArray()) {
            x.feed(1, Character.digit(c, 16));
        }
    }

    private static void start(String hex) {
        x = new SignCellar();
        feedAll(hex);
        same("make", x.make(), 0);
    }

    private static void haveBlocks(int count) {
        try {
            Field field = SignCellar.class.getDeclaredField("blockCount");
            field.setAccessible(true);
            field.setInt(x, count);
        } catch (ReflectiveOperationException e) {
            fault("the count of BLOCKS cannot be set: " + e);
        }
        same("count 2", x.count(2), count);
    }

    private static void dueNow(String call, long want, int blocks) {
        same(call, ask(x, call), want);
        same("count 2 behind " + call, x.count(2), blocks);
    }

    private static void making() {
        start(SIX);
        haveBlocks(195);
        feedAll(SIX);
        dueNow("make", FULL, 195);
        same("count 0", x.count(0), 96);
        haveBlocks(194);
        dueNow("make", 1, 194);
        haveBlocks(195);
        feedAll(SIX.substring(0, 81));
        dueNow("make", FULL, 195);
        haveBlocks(194);
        dueNow("make", 2, 195);
        haveBlocks(199);
        feedAll("f");
        dueNow("make", 3, 200);
        feedAll("f");
        dueNow("make", FULL, 200);
        same("block 3 0", x.block(3, 0), 199);
        same("told 199 0", x.told(199, 0), 1);
    }

    private static void changing() {
        start("123");
        haveBlocks(199);
        dueNow("change 0 0 9", 1, 200);
        dueNow("change 0 0 8", FULL, 200);
        dueNow("change 0 0 1", FULL, 200);
        dueNow("change 0 0 16", OUTSIDE, 200);
        dueNow("change 0 3 1", UNKNOWN, 200);
        dueNow("tear 0", 1, 200);
        dueNow("change 0 0 8", FULL, 200);
    }

    private static void putting() {
        start("1".repeat(16));
        for (int v = 0; v < 8; v++) {
            dueNow("put " + v + " 0 2", v + 1, v + 2);
        }
        haveBlocks(199);
        dueNow("put 8 0 2", FULL, 199);
        dueNow("put 7 0 2", 9, 199);
        haveBlocks(198);
        dueNow("put 8 0 2", 10, 200);
        dueNow("put 7 0 2", FULL, 200);
        dueNow("put 8 0 2", FULL, 200);
    }

    private static void striking() {
        start("1".repeat(16) + "7");
        haveBlocks(199);
        dueNow("strike 0 0", 1, 200);
        dueNow("strike 0 0", FULL, 200);
        // a BLOCK that is left out does not have to be made
        dueNow("strike 0 16", 2, 200);
        start("7");
        dueNow("strike 0 0", 1, 1);
        haveBlocks(200);
        dueNow("put 1 0 7", FULL, 200);
        haveBlocks(199);
        dueNow("put 1 0 7", 2, 199);
    }

    public static void main(String[] args) {
        says(0, "or BLOCKS that have to be made have no room, be they new or not");
        making();
        changing();
        putting();
        striking();
        end(0, 0);
    }
}
