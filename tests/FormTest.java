import java.io.PrintWriter;
import java.io.StringWriter;
import java.lang.reflect.Constructor;
import java.lang.reflect.Field;
import java.lang.reflect.Method;
import java.lang.reflect.Modifier;
import java.nio.file.Files;
import java.nio.file.Path;
import java.util.ArrayList;
import java.util.HashMap;
import java.util.HashSet;
import java.util.List;
import java.util.Map;
import java.util.Set;
import java.util.TreeSet;
import java.util.regex.Matcher;
import java.util.regex.Pattern;
import java.util.spi.ToolProvider;

/** The rules of LANGUAGE.md that a program can look after. Run from the project's folder. */
public final class FormTest {
    private static final String FACE = "feed(int,int,int,int,int)int back(int)int read()int place()int "
            + "change(int,int)boolean undo()boolean modulus(int)int whole(int)int next(int)int wholes(int)int "
            + "both(int,int,int,int)int power(int,int,int)int element(int,int,int)int raise(int,int,int)int "
            + "lower(int,int,int)int down(int,int,int,boolean)int least(int,int,int,int)int "
            + "solve(int,int,int,int)int value(int,int,int)int factor(int,int)int period(int)int "
            + "coset(int,int,int)int code(int,int)long roots(int,int,int,int)int field(int,int)int "
            + "written(int,int,int,int)int let(int,int)int hold(int)boolean restore(int)boolean count(int)int";
    private static int wrong = 0;

    public static void main(String[] args) throws Exception {
        face();
        insides();
        words();
        depth();
        System.out.println(wrong == 0 ? "the form is kept" : wrong + " rules are broken");
        if (wrong != 0) {
            System.exit(1);
        }
    }

    private static void rule(int number, boolean kept, String what) {
        if (!kept) {
            wrong++;
            System.out.println("rule " + number + ": " + what);
        }
    }

    private static String signature(Method m) {
        StringBuilder out = new StringBuilder(m.getName()).append('(');
        for (int i = 0; i < m.getParameterTypes().length; i++) {
            out.append(i > 0 ? "," : "").append(m.getParameterTypes()[i].getSimpleName());
        }
        return out.append(')').append(m.getReturnType().getSimpleName()).toString();
    }

    private static List<Class<?>> classes() {
        List<Class<?>> all = new ArrayList<>(List.of(FieldTower.class.getDeclaredClasses()));
        all.add(FieldTower.class);
        return all;
    }

    private static void face() {
        Class<?> c = FieldTower.class;
        rule(1, Modifier.isPublic(c.getModifiers()) && Modifier.isFinal(c.getModifiers()), "public and final");
        Set<String> seen = new TreeSet<>();
        for (Method m : c.getDeclaredMethods()) {
            if (!m.isSynthetic() && !Modifier.isPrivate(m.getModifiers())) {
                rule(1, Modifier.isPublic(m.getModifiers()) && !Modifier.isStatic(m.getModifiers()), m.toString());
                seen.add(signature(m));
            }
        }
        rule(1, seen.equals(new TreeSet<>(List.of(FACE.split(" ")))), "the methods are " + seen);
        Constructor<?>[] constructors = c.getDeclaredConstructors();
        rule(1, constructors.length == 1 && constructors[0].getParameterCount() == 0
                && Modifier.isPublic(constructors[0].getModifiers()), "the constructor");
        for (Field f : c.getDeclaredFields()) {
            rule(1, Modifier.isPrivate(f.getModifiers()) || f.getName().equals("NONE"), f.toString());
        }
    }

    private static void insides() {
        Set<String> faceNames = new HashSet<>();
        for (String s : FACE.split(" ")) {
            faceNames.add(s.substring(0, s.indexOf('(')));
        }
        rule(11, classes().size() <= 13, "some twelve classes");
        for (Class<?> c : classes()) {
            boolean outer = c == FieldTower.class;
            rule(2, outer || Modifier.isStatic(c.getModifiers()), c + " is static");
            int fields = 0;
            for (Field f : c.getDeclaredFields()) {
                fields += Modifier.isStatic(f.getModifiers()) ? 0 : 1;
                rule(5, !Modifier.isStatic(f.getModifiers()) || Modifier.isFinal(f.getModifiers()), f.toString());
            }
            rule(11, fields <= 20, c + " has " + fields + " fields");
            for (Method m : c.getDeclaredMethods()) {
                rule(11, m.getParameterCount() <= 7, m.toString());
                boolean ofFace = outer && Modifier.isPublic(m.getModifiers());
                rule(1, ofFace || !faceNames.contains(m.getName()), m + " bears a public name");
            }
        }
    }

    private static void words() throws Exception {
        String source = Files.readString(Path.of("src/main/java/FieldTower.java"));
        String code = source.replaceAll("(?s)/\\*.*?\\*/", "").replaceAll("//[^\n]*", "");
        String[] never = {"\\bthrow\\b", "\\bthrows\\b", "\\btry\\b", "\\bcatch\\b", "\\bsynchronized\\b",
            "\\bassert\\b", "->", "::", "\\bimport\\b", "\\bpackage\\b", "Exact\\b", "\\bhashCode\\b",
            "\\btoString\\b", "\\bequals\\b", "\\bvar\\b", "\\bthread\\b", "static \\{", "\\bprotected\\b",
            "while \\(true\\)", "for \\(;;", "System\\.(?!arraycopy)", "Math\\.(?!min|max)", "Integer\\.(?!bitCount)"};
        for (String word : never) {
            rule(6, !Pattern.compile(word).matcher(code).find(), word + " is in the code");
        }
        methodLengths(code);
    }

    private static void methodLengths(String code) {
        String[] lines = code.split("\n");
        int start = -1;
        for (int i = 0; i < lines.length; i++) {
            if (lines[i].matches("( {4}| {8})[a-z].*\\) \\{")) {
                start = i;
            } else if (start >= 0 && lines[i].matches("( {4}| {8})\\}")) {
                rule(11, i - start < 60, lines[start].trim() + " has " + (i - start) + " lines");
                start = -1;
            }
        }
    }

    /** Which method calls which, by javap; none may stand more than eight calls deep, and none calls itself. */
    private static void depth() {
        ToolProvider javap = ToolProvider.findFirst("javap").orElseThrow();
        List<String> options = new ArrayList<>(List.of("-p", "-c", "-cp", System.getProperty("java.class.path")));
        for (Class<?> c : classes()) {
            options.add(c.getName());
        }
        StringWriter out = new StringWriter();
        javap.run(new PrintWriter(out), new PrintWriter(out), options.toArray(new String[0]));
        Map<String, Set<String>> calls = new HashMap<>();
        Pattern classLine = Pattern.compile("^[a-z ]*class (\\S+) .*");
        Pattern methodLine = Pattern.compile("^  (?:[^ (]+ )*([^ (]+)\\(.*\\);");
        Pattern callLine = Pattern.compile(".*// Method (?:(FieldTower[^.:]*)\\.)?\"?([A-Za-z<>]+)\"?:.*");
        String type = "";
        String method = "";
        for (String line : out.toString().split("\n")) {
            Matcher isClass = classLine.matcher(line);
            Matcher isMethod = methodLine.matcher(line);
            Matcher isCall = callLine.matcher(line);
            if (isClass.matches()) {
                type = isClass.group(1);
            } else if (isMethod.matches()) {
                method = type + "." + (isMethod.group(1).equals(type) ? "<init>" : isMethod.group(1));
                calls.putIfAbsent(method, new TreeSet<>());
            } else if (isCall.matches()) {
                calls.get(method).add((isCall.group(1) == null ? type : isCall.group(1)) + "." + isCall.group(2));
            }
        }
        rule(11, calls.containsKey("FieldTower.read") && calls.get("FieldTower.read").size() > 3, "javap was not understood");
        for (String start : calls.keySet()) {
            rule(11, deepest(calls, start, 0) <= 8, start + " goes more than eight deep, or round");
        }
    }

    private static int deepest(Map<String, Set<String>> calls, String method, int above) {
        int most = 0;
        if (above < 12) {
            for (String next : calls.getOrDefault(method, Set.of())) {
                most = Math.max(most, deepest(calls, next, above + 1));
            }
        }
        return most + 1;
    }
}
