import java.io.ByteArrayOutputStream;
import java.io.IOException;
import java.io.PrintStream;
import java.io.PrintWriter;
import java.lang.reflect.Method;
import java.lang.reflect.Modifier;
import java.net.URL;
import java.net.URLClassLoader;
import java.nio.file.Files;
import java.nio.file.Path;
import java.util.ArrayList;
import java.util.List;
import java.util.regex.Matcher;
import java.util.regex.Pattern;
import java.util.spi.ToolProvider;
import java.util.stream.Stream;

/** README.md: its program prints what it says, and it names all there is. Run from the project's folder. */
public final class ReadmeTest {
    private static int wrong = 0;

    public static void main(String[] args) throws Exception {
        String page = Files.readString(Path.of("README.md"));
        program(page);
        names(page);
        System.out.println(wrong == 0 ? "the README tells what is so" : wrong + " things are not as README.md says");
        if (wrong != 0) {
            System.exit(1);
        }
    }

    private static void holds(boolean kept, String what) {
        if (!kept) {
            wrong++;
            System.out.println("README.md: " + what);
        }
    }

    private static void program(String page) throws Exception {
        Matcher block = Pattern.compile("```java\n(.*?)```", Pattern.DOTALL).matcher(page);
        if (!block.find()) {
            holds(false, "there is no program");
            return;
        }
        List<String> calls = new ArrayList<>();
        List<String> answers = new ArrayList<>();
        Matcher line = Pattern.compile("println\\((.*)\\);\\s+// (\\S+)\n").matcher(block.group(1));
        while (line.find()) {
            calls.add(line.group(1));
            answers.add(line.group(2));
        }
        String[] printed = printedBy(block.group(1)).split("\n");
        holds(printed.length == calls.size(), "as many answers as the program prints");
        for (int i = 0; i < printed.length && i < calls.size(); i++) {
            holds(printed[i].equals(answers.get(i)),
                    calls.get(i) + " answered " + printed[i] + ", but it says " + answers.get(i));
        }
    }

    private static String printedBy(String program) throws Exception {
        Path folder = Files.createTempDirectory("readme");
        PrintStream before = System.out;
        PrintWriter told = new PrintWriter(before, true);
        ByteArrayOutputStream out = new ByteArrayOutputStream();
        try (URLClassLoader loader = new URLClassLoader(new URL[] {folder.toUri().toURL()})) {
            Path source = Files.writeString(folder.resolve("Sample.java"), program);
            if (ToolProvider.findFirst("javac").orElseThrow().run(told, told, "-cp",
                    System.getProperty("java.class.path"), "-d", folder.toString(), source.toString()) != 0) {
                return "";
            }
            Method main = loader.loadClass("Sample").getMethod("main", String[].class);
            System.setOut(new PrintStream(out, true));
            main.invoke(null, (Object) new String[0]);
        } finally {
            System.setOut(before);
            remove(folder);
        }
        return out.toString().replace("\r", "");
    }

    private static void remove(Path folder) throws IOException {
        try (Stream<Path> files = Files.list(folder)) {
            for (Path file : files.toList()) {
                Files.delete(file);
            }
        }
        Files.delete(folder);
    }

    private static void names(String page) throws IOException {
        for (Method method : FieldTower.class.getDeclaredMethods()) {
            if (Modifier.isPublic(method.getModifiers())) {
                String call = "`" + method.getName() + "(";
                Matcher told = Pattern.compile(Pattern.quote(call) + "([^)]*)\\)`").matcher(page);
                int many = method.getParameterCount();
                boolean found = false;
                while (told.find()) {
                    found |= told.group(1).isEmpty() ? many == 0 : told.group(1).split(",").length == many;
                }
                holds(found, "no word of " + call + " with " + many + " arguments");
            }
        }
        for (Class<?> inside : FieldTower.class.getDeclaredClasses()) {
            holds(page.contains("`" + inside.getSimpleName() + "`"), "no word of the class " + inside.getSimpleName());
        }
        try (Stream<Path> tests = Files.list(Path.of("tests"))) {
            for (Path test : tests.toList()) {
                String name = test.getFileName().toString().replace(".java", "");
                holds(!name.endsWith("Test") || page.contains("`" + name + "`"), "no word of the test " + name);
            }
        }
    }
}
