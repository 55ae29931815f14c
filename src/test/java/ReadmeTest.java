import java.io.IOException;
import java.lang.reflect.Field;
import java.lang.reflect.Method;
import java.lang.reflect.Modifier;
import java.net.URL;
import java.net.URLClassLoader;
import java.nio.file.Files;
import java.nio.file.Path;
import java.util.ArrayList;
import java.util.List;
import java.util.Set;
import java.util.TreeSet;
import java.util.regex.Matcher;
import java.util.regex.Pattern;
import java.util.stream.Stream;
import javax.tools.JavaCompiler;
import javax.tools.ToolProvider;

/** README.md: its examples, compiled and run as they stand there, answer as it says; its tables name what there is. */
public final class ReadmeTest {
    private static final Path PAGE = Path.of("README.md");
    private static final Path TESTS = Path.of("src/test/java");
    private static final Pattern EXAMPLE = Pattern.compile("(?s)```java\n(.*?)```");
    /** A call, and behind // its answer, up to a colon or the line's end. */
    private static final Pattern CALL = Pattern.compile("\\s*(x\\.\\w+\\(.*\\)); *// ([^:]+)(:.*)?");
    private static final Check check = new Check("ReadmeTest");

    public static void main(String[] args) throws IOException, ReflectiveOperationException {
        String page = Files.readString(PAGE);
        examples(page);
        callsNamed(page);
        answersNamed(page);
        testsNamed(page);
        check.end();
    }

    private static void none(String what, boolean found) {
        check.due(what, found ? 1 : 0, 0);
    }

    private static void examples(String page) throws IOException, ReflectiveOperationException {
        Path folder = Files.createTempDirectory("readme");
        Path source = folder.resolve("ReadmeExample.java");
        try {
            Files.writeString(source, program(page));
            JavaCompiler compiler = ToolProvider.getSystemJavaCompiler();
            String classes = System.getProperty("java.class.path");
            int code = compiler.run(null, null, null, "-cp", classes, "-d", folder.toString(), source.toString());
            check.due("compiling the examples", code, 0);
            if (code == 0) {
                compare(folder);
            }
        } finally {
            remove(folder);
        }
    }

    /** All examples of the page, one behind another, as one program that gathers call, answer, due answer. */
    private static String program(String page) {
        StringBuilder body = new StringBuilder();
        Matcher example = EXAMPLE.matcher(page);
        int examples = 0;
        while (example.find()) {
            examples++;
            for (String line : example.group(1).split("\n")) {
                body.append(statement(line)).append('\n');
            }
        }
        check.due("examples", examples, 2);
        return "import java.util.ArrayList;\nimport java.util.List;\n"
            + "public final class ReadmeExample {\n"
            + "public static List<Object[]> answers() {\nList<Object[]> all = new ArrayList<>();\n"
            + body + "return all;\n}\n}\n";
    }

    private static String statement(String line) {
        Matcher call = CALL.matcher(line);
        if (call.matches()) {
            String told = call.group(1).replace("\\", "\\\\").replace("\"", "\\\"");
            return "all.add(new Object[] {\"" + told + "\", (long) (" + call.group(1) + "), (long) ("
                + call.group(2).strip() + ")});";
        }
        none("a call without its answer: " + line, Pattern.compile("\\bx\\.").matcher(line).find());
        return line;
    }

    private static void compare(Path folder) throws IOException, ReflectiveOperationException {
        try (URLClassLoader loader = new URLClassLoader(new URL[] {folder.toUri().toURL()})) {
            Method answers = loader.loadClass("ReadmeExample").getMethod("answers");
            List<?> all = (List<?>) answers.invoke(null);
            none("no calls", all.isEmpty());
            none("more than 512 calls", all.size() > 512);
            for (Object row : all) {
                Object[] one = (Object[]) row;
                check.due((String) one[0], (Long) one[1], (Long) one[2]);
            }
        }
    }

    private static void remove(Path folder) throws IOException {
        try (Stream<Path> files = Files.list(folder)) {
            for (Path file : files.toList()) {
                Files.delete(file);
            }
        }
        Files.delete(folder);
    }

    /** The table of calls has the whole face, and nothing else. */
    private static void callsNamed(String page) {
        Set<String> named = new TreeSet<>();
        for (String row : rows(page, "| calls |")) {
            Matcher name = Pattern.compile("`(\\w+)`").matcher(row.substring(0, row.indexOf('|', 1)));
            while (name.find()) {
                named.add(name.group(1));
            }
        }
        Set<String> face = new TreeSet<>();
        for (Method method : StayingGuests.class.getDeclaredMethods()) {
            if (Modifier.isPublic(method.getModifiers())) {
                face.add(method.getName());
            }
        }
        same("calls", named, face);
    }

    /** The table of answers below 0 has each constant, with its number. */
    private static void answersNamed(String page) throws IllegalAccessException {
        Set<String> named = new TreeSet<>();
        for (String row : rows(page, "| answer |")) {
            Matcher constant = Pattern.compile("\\| (-\\d+) \\| `(\\w+)` \\|.*").matcher(row);
            if (constant.matches()) {
                named.add(constant.group(2) + " " + constant.group(1));
            }
        }
        Set<String> face = new TreeSet<>();
        for (Field field : StayingGuests.class.getDeclaredFields()) {
            if (Modifier.isPublic(field.getModifiers())) {
                face.add(field.getName() + " " + field.get(null));
            }
        }
        same("constants", named, face);
    }

    private static void testsNamed(String page) throws IOException {
        Set<String> named = new TreeSet<>();
        for (String row : rows(page, "| test |")) {
            named.add(row.replaceFirst("\\| `(\\w+)` \\|.*", "$1"));
        }
        Set<String> there = new TreeSet<>();
        try (Stream<Path> files = Files.list(TESTS)) {
            for (Path file : files.toList()) {
                String name = file.getFileName().toString();
                if (name.endsWith("Test.java")) {
                    there.add(name.substring(0, name.length() - ".java".length()));
                }
            }
        }
        same("tests", named, there);
    }

    /** The rows of the table whose head begins so. */
    private static List<String> rows(String page, String head) {
        List<String> found = new ArrayList<>();
        int start = page.indexOf("\n" + head);
        none("no table " + head, start < 0);
        String[] lines = page.substring(Math.max(start, 0)).strip().split("\n");
        for (int i = 2; i < lines.length && lines[i].startsWith("|"); i++) {
            found.add(lines[i]);
        }
        return found;
    }

    private static void same(String what, Set<String> named, Set<String> there) {
        if (!named.equals(there)) {
            System.out.println(what + " that README.md names: " + named + "\nthat there are: " + there);
        }
        none("README.md names other " + what, !named.equals(there));
    }
}
