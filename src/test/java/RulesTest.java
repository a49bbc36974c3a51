import java.io.IOException;
import java.lang.reflect.Constructor;
import java.lang.reflect.Field;
import java.lang.reflect.Method;
import java.lang.reflect.Modifier;
import java.nio.file.Files;
import java.nio.file.Path;
import java.util.ArrayList;
import java.util.Arrays;
import java.util.List;
import java.util.Set;
import java.util.TreeSet;
import java.util.regex.Matcher;
import java.util.regex.Pattern;

/** The face as the document tells it, and what can be seen of LANGUAGE.md in the source and in the class. */
public final class RulesTest {
    private static int wrong;

    private static void need(boolean holds, String what) {
        if (!holds) {
            wrong++;
            System.out.println("not so: " + what);
        }
    }

    public static void main(String[] args) throws IOException {
        face();
        nested();
        source(Files.readString(Path.of(System.getProperty("main", "src/main/java/MendBench.java"))));
        System.out.println(wrong == 0 ? "the rules are kept" : wrong + " rules are not kept");
        if (wrong != 0) {
            System.exit(1);
        }
    }

    private static void face() {
        String[] want = {"int feed(int,int,int,int,int)", "boolean end(int)",
            "int body(boolean) IllegalArgumentException", "boolean law() IllegalArgumentException", "int fault()",
            "int run(int,int,int) IllegalArgumentException UnsupportedOperationException",
            "int ends(int,int,boolean) IllegalStateException",
            "int look(int,int) IndexOutOfBoundsException IllegalStateException NoSuchElementException",
            "int done(int,boolean) IndexOutOfBoundsException",
            "int where(int) IllegalStateException NoSuchElementException",
            "int mend(int,int) IndexOutOfBoundsException NoSuchElementException",
            "int line(int,int,int) IndexOutOfBoundsException NoSuchElementException",
            "int tries(int) IllegalArgumentException IllegalStateException",
            "int alive(int,int) IndexOutOfBoundsException NoSuchElementException",
            "int aliveEnds(int,int,int) IndexOutOfBoundsException", "int teach(int) IllegalArgumentException",
            "int first(boolean) IllegalStateException", "void box(int) IllegalArgumentException", "int input(boolean)",
            "int prove(int,boolean) IndexOutOfBoundsException IllegalStateException", "int bar() IllegalStateException",
            "int otherwise(int) IndexOutOfBoundsException IllegalStateException", "int heaps() IllegalStateException",
            "int putIn(int) IndexOutOfBoundsException", "int make(int) IndexOutOfBoundsException", "boolean takeBack()",
            "int row(int,int) NoSuchElementException", "int tear(int,int) NoSuchElementException", "int check()",
            "void image()", "boolean back()", "int count(int)"};
        Set<String> due = new TreeSet<>(Arrays.asList(want));
        Set<String> found = new TreeSet<>();
        for (Method m : MendBench.class.getDeclaredMethods()) {
            if (m.isSynthetic()) {
                continue;
            }
            if (Modifier.isPrivate(m.getModifiers())) {
                need(due.stream().noneMatch(d -> d.contains(" " + m.getName() + "(")), "no private method is named " + m.getName());
                continue;
            }
            need(Modifier.isPublic(m.getModifiers()), m.getName() + " is public or private");
            List<String> types = new ArrayList<>();
            for (Class<?> c : m.getParameterTypes()) {
                types.add(c.getSimpleName());
            }
            StringBuilder text = new StringBuilder(m.getReturnType().getSimpleName() + " " + m.getName() + "("
                + String.join(",", types) + ")");
            for (Class<?> c : m.getExceptionTypes()) {
                text.append(" ").append(c.getSimpleName());
            }
            found.add(text.toString());
        }
        need(due.equals(found), "the face is " + due + " and not " + found);
        for (Field f : MendBench.class.getDeclaredFields()) {
            need(f.getName().equals("NONE") == !Modifier.isPrivate(f.getModifiers()) || f.isSynthetic(), f.getName() + " is private");
        }
        for (Constructor<?> c : MendBench.class.getDeclaredConstructors()) {
            need(Modifier.isPublic(c.getModifiers()) && c.getParameterCount() == 0, "one constructor");
        }
        need(MendBench.NONE == -1, "NONE is -1");
        need(Modifier.isFinal(MendBench.class.getModifiers()), "the class is final");
    }

    private static void nested() {
        Set<String> names = new TreeSet<>();
        for (Method m : MendBench.class.getDeclaredMethods()) {
            if (Modifier.isPublic(m.getModifiers())) {
                names.add(m.getName());
            }
        }
        List<Class<?>> classes = new ArrayList<>(List.of(MendBench.class.getDeclaredClasses()));
        need(classes.size() < 13, "at most some twelve classes, and not " + classes.size());
        for (Class<?> c : classes) {
            need(Modifier.isStatic(c.getModifiers()) && Modifier.isPrivate(c.getModifiers()), c + " is private and static");
            for (Method m : c.getDeclaredMethods()) {
                need(!names.contains(m.getName()), c + " has a method named " + m.getName());
            }
        }
        classes.add(MendBench.class);
        for (Class<?> c : classes) {
            int fields = 0;
            for (Field f : c.getDeclaredFields()) {
                fields += Modifier.isStatic(f.getModifiers()) ? 0 : 1;
                need(!Modifier.isStatic(f.getModifiers()) || Modifier.isFinal(f.getModifiers()), f + " is final");
            }
            need(fields <= 20, c + " has at most twenty fields, and not " + fields);
            for (Method m : c.getDeclaredMethods()) {
                need(m.getParameterCount() <= 7, m + " has at most seven parameters");
            }
        }
    }

    private static void source(String text) {
        String code = text.replaceAll("/\\*[^*]*(\\*(?!/)[^*]*)*\\*/", "").replaceAll("//[^\n]*", "");
        for (String word : new String[] {"->", "::", "try", "catch", "finally", "synchronized", "assert", "instanceof", "Object",
            "System.in", "System.out", "Random", "nanoTime", "currentTimeMillis", "Thread", "Exact(", "String.valueOf",
            "hashCode", "toString", "Error", "static {", "package ", "native", "volatile", "goto", "var "}) {
            need(!Pattern.compile("(?<![A-Za-z])" + Pattern.quote(word)).matcher(code).find(), "no " + word);
        }
        Matcher calls = Pattern.compile("\\b(Math|Integer|Long|String|System|Arrays)\\.(\\w+)").matcher(code);
        while (calls.find()) {
            need(List.of("Math.abs", "Math.max", "Math.min", "Integer.bitCount").contains(calls.group()), "no call of " + calls.group());
        }
        Matcher imports = Pattern.compile("import ([^;]*);").matcher(code);
        while (imports.find()) {
            need(imports.group(1).equals("java.util.NoSuchElementException"), "no import of " + imports.group(1));
        }
        Matcher made = Pattern.compile("throw new (\\w+)").matcher(code);
        while (made.find()) {
            need(List.of("IllegalStateException", "IllegalArgumentException", "IndexOutOfBoundsException",
                "UnsupportedOperationException", "NoSuchElementException").contains(made.group(1)), "no throw of " + made.group(1));
        }
        need(!Pattern.compile("\"\\s*\\+|\\+\\s*\"").matcher(code).find(), "no text is joined by +");
        need(text.chars().allMatch(c -> c == '\n' || c >= 32 && c < 127), "the source is plain");
        methodLengths(code);
    }

    private static void methodLengths(String code) {
        int lines = 0;
        String name = "";
        for (String line : code.split("\n")) {
            if (line.matches(" {4,8}(public|private) .*\\{") && !line.contains(" class ")) {
                name = line.trim();
                lines = 0;
            }
            lines++;
            if (line.matches(" {4,8}\\}")) {
                need(lines <= 60, name + " has at most sixty lines, and not " + lines);
            }
        }
    }
}
