import java.io.ByteArrayInputStream;
import java.io.DataInputStream;
import java.io.IOException;
import java.lang.reflect.Method;
import java.util.ArrayDeque;
import java.util.Deque;
import java.util.LinkedHashSet;
import java.util.Map;
import java.util.Set;
import java.util.TreeMap;
import java.util.TreeSet;

/**
 * What the compiled class does, read in its class files: which methods of the library it calls, that no method calls itself by any
 * way, how deep calls go, and that nothing throws, catches, locks or is linked at run time.
 */
public final class ClassFileTest {
    private static final int DEEPEST = 8;
    private static final Set<String> LIBRARY = Set.of("java/lang/Object.<init>", "java/lang/Math.max", "java/lang/Math.min",
        "java/lang/Math.abs", "java/lang/Math.floorMod", "java/lang/Math.floorDiv", "java/util/Arrays.fill", "java/util/Arrays.copyOf",
        "java/util/Arrays.copyOfRange", "java/lang/System.arraycopy");
    /** How many bytes each operation has behind it, sixteen a row; -: told by a rule of its own. */
    private static final String LENGTHS = "0000000000000000" + "1212211111000000" + "0000000000000000" + "0000001111100000"
        + "0000000000000000" + "0000000000000000" + "0000000000000000" + "0000000000000000"
        + "0000200000000000" + "0000000002222222" + "2222222221--0000" + "0022222224421200" + "2200-32244";

    private static final Map<String, Set<String>> calls = new TreeMap<>();
    private static final Set<String> used = new TreeSet<>();
    private static int wrong = 0;

    private static void hold(boolean fine, String what) {
        if (!fine) {
            wrong++;
            System.out.println("class file: " + what);
        }
    }

    /** One class file: its constants, then its methods. */
    private static final class Reader {
        private final String file;
        private final DataInputStream in;
        private Object[] pool = {};

        Reader(String file, byte[] bytes) {
            this.file = file;
            in = new DataInputStream(new ByteArrayInputStream(bytes));
        }

        void read() throws IOException {
            in.readInt();
            in.readInt();
            readPool();
            for (int i = 0; i < 3; i++) {
                in.readUnsignedShort();
            }
            for (int n = in.readUnsignedShort(); n > 0; n--) {
                in.readUnsignedShort();
            }
            readMembers(false);
            readMembers(true);
        }

        private void readPool() throws IOException {
            pool = new Object[in.readUnsignedShort()];
            for (int i = 1; i < pool.length; i++) {
                int tag = in.readUnsignedByte();
                switch (tag) {
                    case 1: pool[i] = in.readUTF(); break;
                    case 3: case 4: in.readInt(); break;
                    case 5: case 6: in.readLong(); i++; break;
                    case 7: case 8: case 16: case 19: case 20: pool[i] = new int[] {in.readUnsignedShort()}; break;
                    case 15: in.readUnsignedByte(); in.readUnsignedShort(); break;
                    case 9: case 10: case 11: case 12: case 17: case 18:
                        pool[i] = new int[] {in.readUnsignedShort(), in.readUnsignedShort()};
                        break;
                    default: throw new IOException("constant " + tag);
                }
            }
        }

        private String text(int index) {
            return (String) pool[index];
        }

        private String className(int index) {
            return text(((int[]) pool[index])[0]);
        }

        private String methodName(int index) {
            int[] both = (int[]) pool[index];
            return className(both[0]) + "." + text(((int[]) pool[both[1]])[0]);
        }

        private void readMembers(boolean methods) throws IOException {
            for (int n = in.readUnsignedShort(); n > 0; n--) {
                in.readUnsignedShort();
                String name = file + "." + text(in.readUnsignedShort());
                in.readUnsignedShort();
                for (int left = in.readUnsignedShort(); left > 0; left--) {
                    String attribute = text(in.readUnsignedShort());
                    byte[] body = new byte[in.readInt()];
                    in.readFully(body);
                    if (methods && attribute.equals("Code")) {
                        readCode(name, body);
                    }
                }
            }
        }

        private void readCode(String method, byte[] body) throws IOException {
            hold(!calls.containsKey(method), method + " is there twice, so that depths cannot be told by names");
            calls.put(method, new LinkedHashSet<>());
            DataInputStream code = new DataInputStream(new ByteArrayInputStream(body));
            code.readInt();
            byte[] steps = new byte[code.readInt()];
            code.readFully(steps);
            hold(code.readUnsignedShort() == 0, method + " catches");
            for (int at = 0; at < steps.length; at += lengthAt(steps, at)) {
                look(method, steps, at);
            }
        }

        private void look(String method, byte[] steps, int at) {
            int step = steps[at] & 255;
            hold(step != 191, method + " throws");
            hold(step != 194 && step != 195, method + " locks");
            hold(step != 186, method + " is linked at run time");
            if (step >= 182 && step <= 185) {
                calls.get(method).add(methodName(wordAt(steps, at + 1)));
            }
            if (step == 187 || step == 192 || step == 193) {
                String made = className(wordAt(steps, at + 1));
                hold(made.startsWith("SignCellar"), method + " makes or casts to " + made);
            }
        }
    }

    private static int wordAt(byte[] steps, int at) {
        return (steps[at] & 255) << 8 | steps[at + 1] & 255;
    }

    private static int intAt(byte[] steps, int at) {
        return wordAt(steps, at) << 16 | wordAt(steps, at + 2);
    }

    private static int lengthAt(byte[] steps, int at) {
        int step = steps[at] & 255;
        int args = at / 4 * 4 + 4;
        switch (step) {
            case 170: return args - at + 12 + 4 * (intAt(steps, args + 8) - intAt(steps, args + 4) + 1);
            case 171: return args - at + 8 + 8 * intAt(steps, args + 4);
            case 196: return (steps[at + 1] & 255) == 132 ? 6 : 4;
            default: return 1 + LENGTHS.charAt(step) - '0';
        }
    }

    private static void read(Class<?> c) throws IOException {
        new Reader(c.getName(), c.getResourceAsStream("/" + c.getName() + ".class").readAllBytes()).read();
        for (Class<?> inner : c.getDeclaredClasses()) {
            read(inner);
        }
    }

    /** How many calls of the class's own methods stand open at once at most, this one with them. */
    private static int depth(String method, Deque<String> open) {
        if (open.contains(method)) {
            hold(false, method + " calls itself: " + open);
            return 0;
        }
        open.push(method);
        int deepest = 0;
        for (String called : calls.get(method)) {
            if (calls.containsKey(called)) {
                deepest = Math.max(deepest, depth(called, open));
            }
        }
        open.pop();
        return deepest + 1;
    }

    private static boolean isPublic(String name) {
        for (Method m : SignCellar.class.getMethods()) {
            if (m.getName().equals(name)) {
                return true;
            }
        }
        return false;
    }

    public static void main(String[] args) throws Exception {
        read(SignCellar.class);
        int deepest = 0;
        for (String method : calls.keySet()) {
            int depth = depth(method, new ArrayDeque<>());
            hold(depth <= DEEPEST, method + " goes " + depth + " deep");
            deepest = Math.max(deepest, depth);
            for (String called : calls.get(method)) {
                hold(calls.containsKey(called) || LIBRARY.contains(called), method + " calls " + called);
                used.add(called);
            }
        }
        for (String method : calls.keySet()) {
            boolean open = method.matches("SignCellar\\.\\w+") && isPublic(method.substring(11));
            hold(used.contains(method) || open || method.startsWith("SignCellar.<"), method + " is never called");
        }
        System.out.println("class files: " + calls.size() + " methods, " + deepest + " deep, " + wrong + " faults");
        if (wrong != 0) {
            System.exit(1);
        }
    }
}
