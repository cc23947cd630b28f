import java.util.ArrayList;
import java.util.Collections;
import java.util.List;
import java.util.Random;

/** What is squeezed can be had back: each KIND is undone from the answers alone, and has to give the BLOCK again. */
public final class SqueezeTest {
    private static int wrong = 0;

    private static void same(List<Integer> got, List<Integer> want, String how) {
        if (!got.equals(want)) {
            wrong++;
            System.out.println(how + " of " + want + " gives back " + got);
        }
    }

    private static void price(int got, int want, String how, List<Integer> signs) {
        if (got != want) {
            wrong++;
            System.out.println(how + " of " + signs + " answered " + got + ", its parts make " + want);
        }
    }

    /** The BLOCK's number; BLOCKS of more than 16 SIGNS come by PUT. */
    private static int blockOf(SignCellar x, List<Integer> signs) {
        for (int i = 0; i < Math.min(16, signs.size()); i++) {
            x.feed(1, signs.get(i));
        }
        int v = x.make();
        for (int i = 16; i < signs.size(); i++) {
            v = x.put(v, i, signs.get(i));
        }
        return x.block(v, 0);
    }

    private static void undoCuts(SignCellar x, int b, List<Integer> signs) {
        List<Integer> back = new ArrayList<>();
        int bits = 0;
        int pieces = x.cut(b, -1);
        for (int i = 0; i < pieces; i++) {
            int piece = x.cut(b, i);
            if (piece == 0) {
                back.add(signs.get(back.size()));
                bits += 5;
            } else {
                for (int j = 0; j < piece / 16; j++) {
                    back.add(back.get(back.size() - piece % 16));
                }
                bits += 11;
            }
        }
        same(back, signs, "cut");
        price(x.size(b, 1), bits, "size by MATES", signs);
        price(x.time(b, 1), pieces + signs.size(), "time by MATES", signs);
    }

    private static void addExpanded(SignCellar x, int b, int piece, List<Integer> into) {
        if (piece < 16) {
            into.add(piece);
            return;
        }
        int length = x.rule(b, 4, piece - 16);
        for (int k = 0; k < length; k++) {
            addExpanded(x, b, x.rule(b, 10 + k, piece - 16), into);
        }
    }

    private static void undoRules(SignCellar x, int b, List<Integer> signs) {
        List<Integer> back = new ArrayList<>();
        int row = x.rule(b, 0, 0);
        for (int i = 0; i < row; i++) {
            addExpanded(x, b, x.rule(b, 3, i), back);
        }
        same(back, signs, "rule");
        int bits = 5 * row;
        int left = 0;
        int k = 0;
        for (int length = x.rule(b, 4, k); length >= 0; length = x.rule(b, 4, ++k)) {
            bits += length == 0 ? 0 : 5 * length + 1;
            left += length == 0 ? 0 : 1;
        }
        price(x.rule(b, 2, 0), k, "rule(b, 2, 0)", signs);
        price(x.rule(b, 1, 0), left, "rule(b, 1, 0)", signs);
        price(x.size(b, 2), bits, "size by RULES", signs);
        price(x.time(b, 2), 2 * signs.size() + left, "time by RULES", signs);
    }

    /** The usual reader of such bits: behind the last bit as many 0 as are wanted. */
    private static void undoOdds(SignCellar x, int b, List<Integer> signs) {
        List<Integer> bits = new ArrayList<>();
        for (int bit = x.bit(b, 0); bit >= 0; bit = x.bit(b, bits.size())) {
            bits.add(bit);
        }
        price(x.size(b, 3), bits.size(), "size by ODDS", signs);
        int next = 0;
        int value = 0;
        for (; next < 16; next++) {
            value = value * 2 + (next < bits.size() ? bits.get(next) : 0);
        }
        int low = 0;
        int high = 65535;
        int[][] stood = new int[17][16];
        List<Integer> back = new ArrayList<>();
        int ahead = 16;
        while (back.size() < signs.size()) {
            int all = 16;
            for (int times : stood[ahead]) {
                all += times;
            }
            int range = high - low + 1;
            int c = 0;
            int sign = 0;
            while (sign < 15 && value >= low + range * (c + 1 + stood[ahead][sign]) / all) {
                c += 1 + stood[ahead][sign++];
            }
            high = low + range * (c + 1 + stood[ahead][sign]) / all - 1;
            low = low + range * c / all;
            back.add(sign);
            stood[ahead][sign]++;
            ahead = sign;
            while (high < 32768 || low >= 32768 || (low >= 16384 && high < 49152)) {
                int off = high < 32768 ? 0 : low >= 32768 ? 32768 : 16384;
                low = 2 * (low - off);
                high = 2 * (high - off) + 1;
                value = 2 * (value - off) + (next < bits.size() ? bits.get(next) : 0);
                next++;
            }
        }
        same(back, signs, "bit");
    }

    private static void undoTurns(SignCellar x, int b, List<Integer> signs) {
        int n = signs.size();
        int end = x.turned(b, 0, 0);
        List<Integer> front = new ArrayList<>();
        for (int s = 0; s < 16; s++) {
            front.add(s);
        }
        List<Integer> lasts = new ArrayList<>();
        int bits = 5;
        for (int i = 0; i < n; i++) {
            int place = x.turned(b, 2, i);
            int sign = front.remove(place);
            front.add(0, sign);
            price(x.turned(b, 1, i), sign, "turned(b, 1, " + i + ")", signs);
            lasts.add(sign);
            bits += place == 0 ? 1 : place < 3 ? 3 : place < 7 ? 5 : place < 15 ? 7 : 9;
        }
        price(x.size(b, 4), bits, "size by TURNED", signs);
        lasts.add(end, -1);
        List<List<Integer>> table = new ArrayList<>();
        for (int i = 0; i <= n; i++) {
            table.add(new ArrayList<>());
        }
        for (int round = 0; round <= n; round++) {
            for (int i = 0; i <= n; i++) {
                table.get(i).add(0, lasts.get(i));
            }
            table.sort((one, other) -> {
                for (int i = 0; i < one.size(); i++) {
                    if (!one.get(i).equals(other.get(i))) {
                        return one.get(i) - other.get(i);
                    }
                }
                return 0;
            });
        }
        same(table.get(end).subList(0, n), signs, "turned");
    }

    private static void undoAll(List<Integer> signs) {
        SignCellar x = new SignCellar();
        int b = blockOf(x, signs);
        undoCuts(x, b, signs);
        undoRules(x, b, signs);
        undoOdds(x, b, signs);
        undoTurns(x, b, signs);
    }

    private static List<Integer> digits(int number, int base, int n) {
        List<Integer> row = new ArrayList<>();
        for (int i = 0; i < n; i++) {
            row.add(0, number % base);
            number /= base;
        }
        return row;
    }

    public static void main(String[] args) {
        int rows = 0;
        for (int n = 1; n <= 11; n++) {
            for (int number = 0; number < 1 << n; number++, rows++) {
                undoAll(digits(number, 2, n));
            }
        }
        Random random = new Random(7);
        for (int round = 0; round < 4000; round++, rows++) {
            int n = 1 + random.nextInt(24);
            int period = 1 + random.nextInt(12);
            int most = 1 + random.nextInt(16);
            List<Integer> row = new ArrayList<>();
            for (int i = 0; i < n; i++) {
                row.add(i >= period && random.nextInt(6) > 0 ? row.get(i - period) : random.nextInt(most));
            }
            undoAll(row);
        }
        undoAll(Collections.nCopies(24, 15));
        System.out.println(rows + " rows squeezed and had back, " + wrong + " wrong");
        if (wrong != 0) {
            System.exit(1);
        }
    }
}
