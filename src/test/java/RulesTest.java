import java.io.IOException;
import java.lang.reflect.Constructor;
import java.lang.reflect.Field;
import java.lang.reflect.Method;
import java.lang.reflect.Modifier;
import java.nio.file.Files;
import java.nio.file.Path;
import java.util.ArrayList;
import java.util.List;
import java.util.Set;
import java.util.TreeSet;
import java.util.regex.Matcher;
import java.util.regex.Pattern;

/** The document's face, and those rules of LANGUAGE.md that a program can look at. */
public final class RulesTest {
    private static final Check CHECK = new Check();
    private static final Set<String> FACE = Set.of(
            "int leaf(int, int)", "int apply(int, int, int)", "int assign(int, int)",
            "int raise(int)", "int leave(boolean)", "int branch(int)", "int loop(int)",
            "int attempt(int)", "boolean otherwise()", "boolean end()", "boolean feed(int)",
            "int look()", "boolean alarm(int, int)", "int seen(int, int)",
            "int bound(int, int, int)", "int run(int)", "int place()", "int type(int)",
            "int number(int)");

    public static void main(String[] args) throws IOException {
        face();
        members();
        source(Files.readString(Path.of("src/main/java/TypeForecast.java")));
        CHECK.finish();
    }

    private static String signature(Method method) {
        List<String> parameters = new ArrayList<>();
        for (Class<?> parameter : method.getParameterTypes()) {
            parameters.add(parameter.getSimpleName());
        }
        return method.getReturnType().getSimpleName() + " " + method.getName() + "("
                + String.join(", ", parameters) + ")";
    }

    private static void face() {
        Class<?> type = TypeForecast.class;
        CHECK.yes("public and final", Modifier.isPublic(type.getModifiers())
                && Modifier.isFinal(type.getModifiers()));
        CHECK.same("constructors", type.getDeclaredConstructors().length, 1);
        for (Constructor<?> constructor : type.getDeclaredConstructors()) {
            CHECK.yes("public constructor", Modifier.isPublic(constructor.getModifiers()));
            CHECK.same("its parameters", constructor.getParameterCount(), 0);
        }
        Set<String> found = new TreeSet<>();
        for (Method method : type.getDeclaredMethods()) {
            if (!Modifier.isPrivate(method.getModifiers())) {
                found.add(signature(method));
                CHECK.yes(method + " is public", Modifier.isPublic(method.getModifiers()));
                CHECK.no(method + " is static", Modifier.isStatic(method.getModifiers()));
            }
        }
        CHECK.yes("the methods are those of the face: " + found, found.equals(FACE));
        for (Field field : type.getDeclaredFields()) {
            CHECK.yes(field + " is private", Modifier.isPrivate(field.getModifiers()));
        }
    }

    private static void members() {
        List<Class<?>> classes = new ArrayList<>(List.of(TypeForecast.class.getDeclaredClasses()));
        for (Class<?> type : classes) {
            CHECK.yes(type + " is static", Modifier.isStatic(type.getModifiers()));
            CHECK.no(type + " is public", Modifier.isPublic(type.getModifiers()));
            CHECK.no(type + " is protected", Modifier.isProtected(type.getModifiers()));
        }
        classes.add(TypeForecast.class);
        CHECK.yes("at most twelve classes", classes.size() <= 12);
        for (Class<?> type : classes) {
            int fields = 0;
            for (Field field : type.getDeclaredFields()) {
                boolean isStatic = Modifier.isStatic(field.getModifiers());
                fields += isStatic ? 0 : 1;
                CHECK.yes(field + " may be static", !isStatic
                        || Modifier.isFinal(field.getModifiers()));
            }
            CHECK.yes(type + " has at most twenty fields", fields <= 20);
            for (Method method : type.getDeclaredMethods()) {
                CHECK.yes(method + " has at most seven parameters",
                        method.getParameterCount() <= 7);
                boolean namesake = FACE.stream().anyMatch(s -> s.contains(" " + method.getName() + "("));
                CHECK.yes(method + " bears a name of its own", !namesake
                        || Modifier.isPublic(method.getModifiers()));
            }
        }
    }

    private static void source(String text) {
        String code = text.replaceAll("(?s)/\\*.*?\\*/", "").replaceAll("//[^\n]*", "");
        String[] forbidden = {"\\bthrow", "\\btry\\b", "\\bcatch\\b", "\\bsynchronized\\b",
            "\\bassert\\b", "->", "::", "Exact\\(", "\\bSystem\\.(?!arraycopy)", "\\bObject\\b",
            "\\bequals\\b", "\\bhashCode\\b", "\\btoString\\b", "\\bpackage\\b", "\"",
            "\\bimport (?!java\\.util\\.(Arrays|ArrayList|List);)"};
        for (String word : forbidden) {
            Matcher matcher = Pattern.compile(word).matcher(code);
            CHECK.no(word + " in the source", matcher.find());
        }
        int begin = 0;
        String[] lines = text.split("\n");
        for (int i = 0; i < lines.length; i++) {
            if (lines[i].matches("(    ){1,2}[A-Za-z].*\\(.*\\{")) {
                begin = i;
            }
            if (lines[i].matches("(    ){1,2}\\}")) {
                boolean sameDepth = lines[begin].indexOf(lines[begin].trim()) == lines[i].indexOf('}');
                CHECK.yes("the method at line " + (begin + 1) + " is short",
                        !sameDepth || i - begin < 60);
            }
        }
    }
}
