import java.lang.reflect.Constructor;
import java.lang.reflect.Field;
import java.lang.reflect.Method;
import java.lang.reflect.Modifier;
import java.nio.file.Files;
import java.nio.file.Path;
import java.util.ArrayList;
import java.util.HashSet;
import java.util.List;
import java.util.Set;
import java.util.TreeSet;
import java.util.regex.Matcher;
import java.util.regex.Pattern;

/** The document's public face, and what a look at the source can tell of LANGUAGE.md's rules. */
public final class LanguageTest {
    private final Check check = new Check();

    public static void main(String[] args) throws Exception {
        Path root = Path.of(args.length > 0 ? args[0] : ".");
        LanguageTest test = new LanguageTest();
        test.face(Files.readString(root.resolve("../shared/DOC.md")));
        test.source(Files.readString(root.resolve("src/main/java/MissedSale.java")));
        test.classes();
        test.check.end("LanguageTest");
    }

    private void face(String document) {
        Set<String> want = new TreeSet<>();
        Matcher m = Pattern.compile("public (int|long) (\\w+)\\(([^)]*)\\);").matcher(document);
        while (m.find()) {
            String types = m.group(3).replaceAll("(int|long) \\w+", "$1").replace(" ", "");
            want.add(m.group(1) + " " + m.group(2) + "(" + types + ")");
        }
        check.due("methods of the document", 41, want.size());
        Set<String> got = new TreeSet<>();
        Set<String> hidden = new HashSet<>();
        for (Method method : MissedSale.class.getDeclaredMethods()) {
            if (!Modifier.isPublic(method.getModifiers())) {
                hidden.add(method.getName());
                check.holds(method + " is private", Modifier.isPrivate(method.getModifiers()));
                continue;
            }
            List<String> types = new ArrayList<>();
            for (Class<?> type : method.getParameterTypes()) {
                types.add(type.getName());
            }
            got.add(method.getReturnType().getName() + " " + method.getName() + "("
                    + String.join(",", types) + ")");
        }
        check.holds("the face is " + want + " but there is " + got, want.equals(got));
        for (Class<?> inside : MissedSale.class.getDeclaredClasses()) {
            for (Method method : inside.getDeclaredMethods()) {
                hidden.add(method.getName());
            }
        }
        for (String method : got) {
            String name = method.substring(method.indexOf(' ') + 1, method.indexOf('('));
            check.holds("no other method is called " + name, !hidden.contains(name));
        }
        Set<String> constants = new TreeSet<>();
        for (Field field : MissedSale.class.getDeclaredFields()) {
            if (Modifier.isPublic(field.getModifiers())) {
                constants.add(field.getName());
            } else {
                check.holds(field + " is private", Modifier.isPrivate(field.getModifiers()));
            }
        }
        check.holds("the constants are " + constants,
                constants.equals(Set.of("BAD", "NOT", "FULL", "STATE", "VOID")));
        for (Constructor<?> made : MissedSale.class.getDeclaredConstructors()) {
            check.holds(made + " is the only constructor", made.getParameterCount() == 0);
        }
        check.holds("the class is public and final",
                Modifier.isPublic(MissedSale.class.getModifiers())
                && Modifier.isFinal(MissedSale.class.getModifiers()));
    }

    private void source(String text) {
        String code = text.replaceAll("(?s)/\\*.*?\\*/", "").replaceAll("//[^\n]*", "")
                .replaceAll("'(\\\\.|[^'])'", "' '");
        for (String word : new String[] {"throw", "throws", "try", "catch", "synchronized", "assert",
            "volatile", "transient", "native", "record", "package", "System\\.(?!arraycopy)",
            "Exact", "equals", "hashCode", "toString", "Thread", "Random", "instanceof"}) {
            check.holds("no " + word,
                    !Pattern.compile("\\b" + word + "\\b").matcher(code).find());
        }
        check.holds("no lambda, no method reference", !code.contains("->") && !code.contains("::"));
        check.holds("one import", code.split("import ").length == 2
                && code.contains("import java.util.Arrays;"));
        check.holds("no static block", !Pattern.compile("static\\s*\\{").matcher(code).find());
        Matcher m = Pattern.compile("while\\s*\\(").matcher(code);
        check.holds("loops are counted", !m.find());
        for (String line : text.split("\n")) {
            check.holds("no more than 100 signs in a line: " + line, line.length() <= 100);
        }
    }

    private void classes() {
        Class<?>[] inside = MissedSale.class.getDeclaredClasses();
        check.holds("at most twelve classes", inside.length < 12);
        for (Class<?> one : inside) {
            check.holds(one + " is static", Modifier.isStatic(one.getModifiers()));
            int fields = 0;
            for (Field field : one.getDeclaredFields()) {
                boolean fixed = Modifier.isStatic(field.getModifiers());
                fields += fixed ? 0 : 1;
                check.holds(field + " is final",
                        !fixed || Modifier.isFinal(field.getModifiers()));
            }
            check.holds(one + " has at most twenty fields", fields <= 20);
            for (Method method : one.getDeclaredMethods()) {
                check.holds(method + " takes seven at most", method.getParameterCount() <= 7);
            }
        }
    }
}
