import java.lang.reflect.Constructor;
import java.lang.reflect.Field;
import java.lang.reflect.Method;
import java.lang.reflect.Modifier;
import java.nio.file.Files;
import java.nio.file.Path;
import java.util.HashSet;
import java.util.List;
import java.util.Set;
import java.util.TreeSet;
import java.util.regex.Matcher;
import java.util.regex.Pattern;

/** The face of the class is the document's and no more, and its text keeps to what of LANGUAGE.md can be seen in it. */
public final class LanguageTest {
    private static final String SOURCE = "src/main/java/SignCellar.java";
    private static final List<String> FACE = List.of(
        "feed(int,long):int", "make():int", "change(int,int,int):int", "put(int,int,int):int", "strike(int,int):int",
        "about(int,int):int", "block(int,int):int", "open(int,int):int", "told(int,int):int", "count(int):int",
        "share(int,int):int", "size(int,int):int", "time(int,int):int", "cut(int,int):int", "rule(int,int,int):int",
        "bit(int,int):int", "turned(int,int,int):int", "best(int,int,int):int", "sign(int):int", "clear():int",
        "seek(int,int,int):int", "span(int,int,int,int):int", "tear(int):int", "sums(int,int,int):int",
        "restore(int):int", "send(int,int,int):int", "ways(int):long", "bound(int):int", "entropy(int,int):int");
    private static final List<String> CONSTANTS = List.of("NONE", "UNKNOWN", "OUTSIDE", "NOT", "FULL", "TORN");
    private static final List<String> FORBIDDEN = List.of(
        "\\bthrow\\b", "\\bthrows\\b", "\\btry\\b", "\\bcatch\\b", "\\bsynchronized\\b", "\\bassert\\b", "->", "::",
        "\\bpackage\\b", "\\bprotected\\b", "\\bdouble\\b", "\\bfloat\\b", "\\bequals\\b", "\\bhashCode\\b", "\\btoString\\b",
        "\\bstatic\\s*\\{", "Exact\\b", "\\bvar\\b", "\\bObject\\b", "\\bthread\\b", "\\bSystem\\.(?!arraycopy)", "\\bnative\\b", "@");
    private static int wrong = 0;

    private static void hold(boolean fine, String what) {
        if (!fine) {
            wrong++;
            System.out.println("LANGUAGE: " + what);
        }
    }

    private static String shown(Method m) {
        StringBuilder s = new StringBuilder(m.getName()).append("(");
        for (Class<?> p : m.getParameterTypes()) {
            s.append(s.charAt(s.length() - 1) == '(' ? "" : ",").append(p.getName());
        }
        return s.append("):").append(m.getReturnType().getName()).toString();
    }

    private static void face() {
        Class<?> c = SignCellar.class;
        hold(Modifier.isPublic(c.getModifiers()) && Modifier.isFinal(c.getModifiers()), "the class is public and final");
        Set<String> open = new TreeSet<>();
        for (Method m : c.getDeclaredMethods()) {
            if (!Modifier.isPrivate(m.getModifiers()) || m.isSynthetic()) {
                open.add(shown(m));
                hold(Modifier.isPublic(m.getModifiers()) && !Modifier.isStatic(m.getModifiers()), shown(m) + " is public");
            }
        }
        hold(open.equals(new TreeSet<>(FACE)), "the methods are " + open);
        Set<String> constants = new HashSet<>();
        for (Field f : c.getDeclaredFields()) {
            if (!Modifier.isPrivate(f.getModifiers())) {
                constants.add(f.getName());
                hold(f.getModifiers() == (Modifier.PUBLIC | Modifier.STATIC | Modifier.FINAL), f.getName() + " is a constant");
            }
        }
        hold(constants.equals(new HashSet<>(CONSTANTS)), "the constants are " + constants);
        Constructor<?>[] made = c.getDeclaredConstructors();
        hold(made.length == 1 && made[0].getParameterCount() == 0 && Modifier.isPublic(made[0].getModifiers()), "one constructor");
    }

    private static void inside(Class<?> c) {
        int fields = 0;
        for (Field f : c.getDeclaredFields()) {
            boolean isStatic = Modifier.isStatic(f.getModifiers());
            hold(!isStatic || Modifier.isFinal(f.getModifiers()), f + " is static and not final");
            fields += isStatic ? 0 : 1;
        }
        hold(fields <= 20, c + " has " + fields + " fields");
        for (Method m : c.getDeclaredMethods()) {
            hold(m.getParameterCount() <= 7, m + " has over seven parameters");
            boolean named = FACE.stream().anyMatch(f -> f.startsWith(m.getName() + "("));
            hold(!named || Modifier.isPublic(m.getModifiers()), m + " bears the name of a public one");
        }
        for (Class<?> inner : c.getDeclaredClasses()) {
            hold(Modifier.isStatic(inner.getModifiers()) && !Modifier.isPublic(inner.getModifiers()), inner + " is static");
            inside(inner);
        }
    }

    private static void text() throws Exception {
        String source = Files.readString(Path.of(SOURCE));
        hold(source.chars().allMatch(c -> c == '\n' || (c >= 32 && c < 127)), "the text has other signs than ASCII");
        String code = source.replaceAll("(?s)/\\*.*?\\*/", " ").replaceAll("//[^\n]*", " ");
        for (String word : FORBIDDEN) {
            Matcher m = Pattern.compile(word).matcher(code);
            hold(!m.find(), "the text has " + word);
        }
        Matcher imports = Pattern.compile("import ([^;]+);").matcher(code);
        while (imports.find()) {
            hold(Set.of("java.util.Arrays", "java.util.ArrayList", "java.util.List").contains(imports.group(1)), imports.group());
        }
        Matcher calls = Pattern.compile("\\bArrays\\.(\\w+)").matcher(code);
        while (calls.find()) {
            hold(Set.of("fill", "copyOf", "copyOfRange").contains(calls.group(1)), calls.group());
        }
        int classes = SignCellar.class.getDeclaredClasses().length;
        hold(classes <= 12, classes + " classes inside");
        methodLengths(source.split("\n"));
    }

    private static void methodLengths(String[] lines) {
        int begun = -1;
        for (int i = 0; i < lines.length; i++) {
            if (lines[i].matches("( {4}| {8})\\S.*\\) \\{") && !lines[i].matches(" *(if|for|while|switch|} else).*")) {
                begun = i;
            } else if (begun >= 0 && lines[i].matches("( {4}| {8})}") && lines[i].indexOf('}') == indent(lines[begun])) {
                hold(i - begun <= 60, "a method of over sixty lines at " + (begun + 1));
                begun = -1;
            }
        }
    }

    private static int indent(String line) {
        return line.length() - line.stripLeading().length();
    }

    public static void main(String[] args) throws Exception {
        face();
        inside(SignCellar.class);
        text();
        System.out.println("LANGUAGE: " + wrong + " faults");
        if (wrong != 0) {
            System.exit(1);
        }
    }
}
