import java.lang.reflect.Constructor;
import java.lang.reflect.Field;
import java.lang.reflect.Method;
import java.lang.reflect.Modifier;
import java.nio.file.Files;
import java.nio.file.Path;
import java.util.Set;
import java.util.TreeSet;
import java.util.regex.Matcher;
import java.util.regex.Pattern;

/** The face of the class is the one that the document prints, read there line by line, and no more. */
public final class FaceTest {
    private static int wrong = 0;

    private static void same(String what, Set<String> got, Set<String> want) {
        if (want.isEmpty() || !got.equals(want)) {
            wrong++;
            System.out.println(what + ": " + got + ", the document prints " + want);
        }
    }

    private static String printed() throws Exception {
        String all = Files.readString(Path.of("../shared/DOC.md"));
        Matcher block = Pattern.compile("(?s)## The public face\\s+```java(.*?)```").matcher(all);
        return block.find() ? block.group(1) : "";
    }

    /** All that stands behind "public", names of arguments left out. */
    private static Set<String> wanted(String face) {
        Set<String> all = new TreeSet<>();
        Matcher line = Pattern.compile("public ([^;{]+)[;{]").matcher(face);
        while (line.find()) {
            String told = line.group(1).strip();
            if (told.contains("=")) {
                for (String constant : told.substring("static final int ".length()).split(", ")) {
                    all.add("static final int " + constant);
                }
            } else {
                all.add(told.replaceAll("\\b(int|long) \\w+(?=[,)])", "$1"));
            }
        }
        return all;
    }

    private static String arguments(Class<?>[] types) {
        StringBuilder told = new StringBuilder("(");
        for (Class<?> type : types) {
            told.append(told.length() > 1 ? ", " : "").append(type.getName());
        }
        return told.append(")").toString();
    }

    private static Set<String> had() throws Exception {
        Set<String> all = new TreeSet<>();
        Class<?> c = SignCellar.class;
        all.add(Modifier.toString(c.getModifiers()).replaceFirst("public ", "") + " class " + c.getName());
        for (Constructor<?> made : c.getDeclaredConstructors()) {
            if (!Modifier.isPrivate(made.getModifiers())) {
                all.add(made.getName() + arguments(made.getParameterTypes()));
            }
        }
        for (Method m : c.getDeclaredMethods()) {
            if (!Modifier.isPrivate(m.getModifiers())) {
                String how = Modifier.toString(m.getModifiers()).replaceFirst("public ?", "");
                all.add(how + m.getReturnType().getName() + " " + m.getName() + arguments(m.getParameterTypes()));
            }
        }
        for (Field f : c.getDeclaredFields()) {
            if (!Modifier.isPrivate(f.getModifiers())) {
                all.add(Modifier.toString(f.getModifiers()).replaceFirst("public ", "") + " " + f.getType().getName() + " " + f.getName()
                    + " = " + f.get(null));
            }
        }
        return all;
    }

    /** Each call of the face has a promise with a heading of its name, and is told there just as the face prints it. */
    private static void promised(String face) throws Exception {
        String all = Files.readString(Path.of("../shared/DOC.md"));
        Set<String> headed = new TreeSet<>();
        Matcher promise = Pattern.compile("## Promise \\d+: .*\\s+`([^`]+)`").matcher(all);
        while (promise.find()) {
            headed.add(promise.group(1));
        }
        Set<String> calls = new TreeSet<>();
        Matcher call = Pattern.compile("public ([^;{=]+\\)) *;").matcher(face);
        while (call.find()) {
            calls.add(call.group(1));
        }
        same("calls of the face", calls, headed);
    }

    public static void main(String[] args) throws Exception {
        String face = printed();
        Set<String> want = wanted(face);
        same("the face", had(), want);
        promised(face);
        System.out.println("the face: " + want.size() + " told, " + wrong + " faults");
        if (wrong != 0) {
            System.exit(1);
        }
    }
}
