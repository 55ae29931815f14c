import java.io.IOException;
import java.lang.reflect.Constructor;
import java.lang.reflect.Field;
import java.lang.reflect.Method;
import java.lang.reflect.Modifier;
import java.nio.file.Files;
import java.nio.file.Path;
import java.util.Arrays;
import java.util.Set;
import java.util.TreeSet;
import java.util.regex.Matcher;
import java.util.regex.Pattern;

/** The face as the document has it, and the rules of LANGUAGE.md that a look at the text can tell. */
public final class LanguageTest {
    private static final Path PROGRAM = Path.of("src/main/java/StayingGuests.java");
    private static final Path DOCUMENT = Path.of("../shared/DOC.md");
    private static final Check check = new Check("LanguageTest");

    public static void main(String[] args) throws IOException, IllegalAccessException {
        String document = Files.readString(DOCUMENT);
        face(document);
        constants(document);
        String code = withoutCommentsAndTexts(Files.readString(PROGRAM));
        words(code);
        members();
        nested();
        methodLengths(code);
        check.end();
    }

    private static void none(String what, boolean found) {
        check.due(what, found ? 1 : 0, 0);
    }

    /** The part of the document that is Java: the public face. */
    private static String faceOf(String document) {
        int start = document.indexOf("```java");
        return document.substring(start, document.indexOf("```", start + 3));
    }

    private static void face(String document) {
        String block = faceOf(document);
        Set<String> due = new TreeSet<>();
        Matcher m = Pattern.compile("public (int|long) (\\w+)\\(([^)]*)\\);").matcher(block);
        while (m.find()) {
            due.add(m.group(1) + " " + m.group(2) + "(" + m.group(3).replaceAll(" \\w+(?=,|$)", "") + ")");
        }
        Set<String> got = new TreeSet<>();
        for (Method method : StayingGuests.class.getDeclaredMethods()) {
            if (!Modifier.isPrivate(method.getModifiers()) && !method.isSynthetic()) {
                String takes = String.join(", ", Arrays.stream(method.getParameterTypes()).map(Class::getName).toList());
                got.add(method.getReturnType() + " " + method.getName() + "(" + takes + ")");
                none(method + " is not public alone", method.getModifiers() != Modifier.PUBLIC);
            }
        }
        check.due("how many calls the face has", due.size(), 32);
        if (!due.equals(got)) {
            System.out.println("due " + due + "\ngot " + got);
        }
        none("the face differs", !due.equals(got));
    }

    /** The constants with their types and values, and no other field that can be seen. */
    private static void constants(String document) throws IllegalAccessException {
        Set<String> due = new TreeSet<>();
        Matcher row = Pattern.compile("public static final (int|long) ([^;]*);").matcher(faceOf(document));
        while (row.find()) {
            for (String one : row.group(2).split(", ")) {
                due.add(row.group(1) + " " + one.replace("Long.MIN_VALUE", String.valueOf(Long.MIN_VALUE)));
            }
        }
        Set<String> got = new TreeSet<>();
        for (Field field : StayingGuests.class.getDeclaredFields()) {
            if (!Modifier.isPrivate(field.getModifiers()) && !field.isSynthetic()) {
                none(field + " is not static", !Modifier.isStatic(field.getModifiers()));
                got.add(field.getType() + " " + field.getName() + " = " + field.get(null));
            }
        }
        check.due("how many constants the face has", due.size(), 6);
        if (!due.equals(got)) {
            System.out.println("due " + due + "\ngot " + got);
        }
        none("the constants differ", !due.equals(got));
        none("it is a kind of another class", StayingGuests.class.getSuperclass() != Object.class);
        check.due("interfaces of it", StayingGuests.class.getInterfaces().length, 0);
    }

    private static void words(String code) {
        String[] banned = {"throw", "throws", "try", "catch", "finally", "synchronized", "assert", "import", "package",
            "protected", "native", "volatile", "transient", "var", "Object", "System\\.out", "equals", "hashCode",
            "toString", "\\w+Exact", "->", "::", "@", "\\byield\\b", "double", "float"};
        for (String word : banned) {
            String wanted = word.matches("\\w+") ? "\\b" + word + "\\b" : word;
            none("the program has " + word, Pattern.compile(wanted).matcher(code).find());
        }
        none("a class inside that is not static", Pattern.compile("\\b(?<!static )(?<!static final )"
            + "(?<!static abstract )(?<!public final )class \\w").matcher(code).find());
        none("a loop without an end", Pattern.compile("while \\(true\\)|for \\(;|for \\([^;]*; *;").matcher(code).find());
    }

    private static void members() {
        for (Field field : StayingGuests.class.getDeclaredFields()) {
            boolean hidden = Modifier.isPrivate(field.getModifiers());
            boolean constant = Modifier.isStatic(field.getModifiers()) && Modifier.isFinal(field.getModifiers());
            none(field + " is static, but not final", Modifier.isStatic(field.getModifiers()) && !constant);
            none(field + " is seen", !hidden && !(constant && Modifier.isPublic(field.getModifiers())));
        }
        Constructor<?>[] made = StayingGuests.class.getDeclaredConstructors();
        check.due("constructors", made.length, 1);
        check.due("its parameters", made[0].getParameterCount(), 0);
        none("it is not public", !Modifier.isPublic(made[0].getModifiers()));
        none("the class is not public and final",
            StayingGuests.class.getModifiers() != (Modifier.PUBLIC | Modifier.FINAL));
    }

    private static void nested() {
        Set<String> open = new TreeSet<>();
        for (Method method : StayingGuests.class.getMethods()) {
            open.add(method.getName());
        }
        Class<?>[] inside = StayingGuests.class.getDeclaredClasses();
        none("more than twelve classes", inside.length + 1 > 12);
        for (Class<?> c : inside) {
            none(c + " is not static", !Modifier.isStatic(c.getModifiers()));
            none(c + " is seen", Modifier.isPublic(c.getModifiers()) || Modifier.isProtected(c.getModifiers()));
            fewFields(c);
            plainMethods(c, open);
        }
        fewFields(StayingGuests.class);
        plainMethods(StayingGuests.class, open);
    }

    private static void fewFields(Class<?> c) {
        long fields = Arrays.stream(c.getDeclaredFields()).filter(f -> !Modifier.isStatic(f.getModifiers())).count();
        none(c + " has more than twenty fields", fields > 20);
        for (Field f : c.getDeclaredFields()) {
            none(f + " is static, but not final",
                Modifier.isStatic(f.getModifiers()) && !Modifier.isFinal(f.getModifiers()));
        }
    }

    private static void plainMethods(Class<?> c, Set<String> open) {
        for (Method method : c.getDeclaredMethods()) {
            none(method + " takes more than seven", method.getParameterCount() > 7);
            boolean hidden = c != StayingGuests.class || Modifier.isPrivate(method.getModifiers());
            none(method + " bears the name of a public one", hidden && open.contains(method.getName()));
        }
    }

    private static void methodLengths(String code) {
        int depth = 0, start = 0, at = 0;
        boolean inMethod = false;
        int methodDepth = 0;
        for (String line : code.split("\n")) {
            at++;
            if (!inMethod && line.matches("\\s+[\\w\\[\\] ]+\\(.*") && !line.contains(";") && !line.contains("new ")) {
                inMethod = true;
                start = at;
                methodDepth = depth;
            }
            depth += line.length() - line.replace("{", "").length();
            depth -= line.length() - line.replace("}", "").length();
            if (inMethod && depth == methodDepth && line.contains("}")) {
                inMethod = false;
                none("a method of " + (at - start + 1) + " lines at " + start, at - start + 1 > 60);
            }
        }
        check.due("braces", depth, 0);
    }

    private static String withoutCommentsAndTexts(String text) {
        return text.replaceAll("(?s)/\\*.*?\\*/", "").replaceAll("//[^\n]*", "")
            .replaceAll("\"(\\\\.|[^\"\\\\\n])*\"", "\"\"").replaceAll("'(\\\\.|[^'\\\\\n])'", "'_'");
    }
}
