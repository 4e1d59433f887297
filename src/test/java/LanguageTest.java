import java.io.IOException;
import java.lang.reflect.Constructor;
import java.lang.reflect.Field;
import java.lang.reflect.Method;
import java.lang.reflect.Modifier;
import java.nio.file.Files;
import java.nio.file.Path;
import java.util.ArrayList;
import java.util.Arrays;
import java.util.HashSet;
import java.util.List;
import java.util.Set;
import java.util.TreeSet;

/** The face of the class, and those rules of LANGUAGE.md that can be seen in the class or in its text. */
public final class LanguageTest {
    private static final String[] FACE = {
        "int order(int,int,int,int,int)", "int work(int,int,int,int)", "int drop(int)", "int setAmount(int,int)",
        "int cut(int,int)", "int orderOf(int,int)", "int workOf(int,int,int)", "int orders()", "int works()",
        "int setting(int,int,int,int)", "int rest(int,int,int)", "int noRest()", "int workers(int,int)",
        "boolean rests(int,int)", "boolean plan(int)", "int rowAt(int)", "boolean hasTimes()", "int begin(int,int)",
        "int endOf(int)", "int end()", "int busy(int)", "int workAt(int,int)", "int load(int)", "int bound()",
        "int least()", "int critical()", "int criticalAt(int)", "int weighted(int)", "int lateness(int)",
        "int fewestLate(int)", "int oneAt(int,int,int)", "int two(int,int)", "int twoAt(int,int,int)",
        "int setRate(boolean,int)", "long cost()", "int late()", "boolean move(int,int)", "int improve()",
        "int without(int)", "int keep(int)", "int take(int)", "int differ(int)", "int append(int,int,int,int,int)",
        "int clearTape()", "boolean read()", "int errorPosition()", "int write()", "char writtenAt(int)", "int undo()",
        "int checksum()", "double meanEnd()", "float use(int)", "int errors()",
    };

    private static final String[] FORBIDDEN = {
        "->", "::", "try {", "catch (", "finally", "synchronized", "assert ", "Exact(", "record ", "enum ",
        "interface ", "extends ", "instanceof", "static {", "var ", "goto",
    };

    public static void main(String[] args) throws IOException {
        face();
        classes();
        source();
        Check.close();
    }

    private static String told(Method method) {
        List<String> types = new ArrayList<>();
        for (Class<?> type : method.getParameterTypes()) {
            types.add(type.getSimpleName());
        }
        return method.getReturnType().getSimpleName() + " " + method.getName() + "(" + String.join(",", types) + ")";
    }

    private static void face() {
        Set<String> due = new TreeSet<>(Arrays.asList(FACE));
        Set<String> got = new TreeSet<>();
        for (Method method : Manyshiftloom.class.getDeclaredMethods()) {
            if (Modifier.isPublic(method.getModifiers())) {
                got.add(told(method));
                Check.note(!Modifier.isStatic(method.getModifiers()), "rule 1: static " + method.getName());
            } else {
                Check.note(Modifier.isPrivate(method.getModifiers()), "rule 1: not private: " + method.getName());
            }
        }
        Check.same("rule 1: the public methods", got, due);
        for (Field field : Manyshiftloom.class.getDeclaredFields()) {
            boolean isFace = field.getName().equals("NONE");
            boolean isShown = !Modifier.isPrivate(field.getModifiers());
            Check.same("rule 1: the field " + field.getName() + " is shown", isShown, isFace);
        }
        Constructor<?>[] makers = Manyshiftloom.class.getDeclaredConstructors();
        Check.same("rule 1: one constructor", makers.length, 1);
        Check.same("rule 1: without parameters", makers[0].getParameterCount(), 0);
        int due1 = Modifier.PUBLIC | Modifier.FINAL;
        Check.same("rule 1: public and final", Manyshiftloom.class.getModifiers(), due1);
    }

    private static void classes() {
        Set<String> faceNames = new HashSet<>();
        for (String told : FACE) {
            faceNames.add(told.substring(told.indexOf(' ') + 1, told.indexOf('(')));
        }
        Class<?>[] inside = Manyshiftloom.class.getDeclaredClasses();
        Check.note(inside.length < 12, "rule 11: classes " + inside.length);
        for (Class<?> type : inside) {
            Check.note(Modifier.isStatic(type.getModifiers()), "rule 1: not static: " + type);
            Check.note(!Modifier.isPublic(type.getModifiers()), "rule 1: public: " + type);
            for (Method method : type.getDeclaredMethods()) {
                Check.note(!faceNames.contains(method.getName()), "rule 1: a name of the face: " + method);
            }
            fieldsAndParameters(type);
        }
        for (Method method : Manyshiftloom.class.getDeclaredMethods()) {
            boolean isPublic = Modifier.isPublic(method.getModifiers());
            Check.note(isPublic || !faceNames.contains(method.getName()), "rule 1: a name of the face: " + method);
        }
        fieldsAndParameters(Manyshiftloom.class);
    }

    private static void fieldsAndParameters(Class<?> type) {
        int fields = 0;
        for (Field field : type.getDeclaredFields()) {
            boolean isStatic = Modifier.isStatic(field.getModifiers());
            fields += isStatic ? 0 : 1;
            Check.note(!isStatic || Modifier.isFinal(field.getModifiers()), "rule 5: static, not final: " + field);
        }
        Check.note(fields <= 20, "rule 11: fields of " + type + ": " + fields);
        for (Method method : type.getDeclaredMethods()) {
            Check.note(method.getParameterCount() <= 7, "rule 11: parameters: " + method);
            Check.note(!method.isSynthetic(), "rule 2: made by the compiler: " + method);
        }
    }

    private static void source() throws IOException {
        List<String> lines = Files.readAllLines(Path.of("src/main/java/Manyshiftloom.java"));
        int imports = 0;
        int begin = -1;
        for (int at = 0; at < lines.size(); at++) {
            String line = lines.get(at);
            if (line.startsWith("import ")) {
                imports++;
                Check.same("rule 4: import", line, "import java.util.NoSuchElementException;");
            }
            boolean isComment = line.trim().startsWith("*") || line.trim().startsWith("/");
            for (String word : FORBIDDEN) {
                Check.note(isComment || !line.contains(word), "line " + (at + 1) + " has " + word);
            }
            for (int sign = 0; sign < line.length(); sign++) {
                Check.note(line.charAt(sign) < 127, "line " + (at + 1) + " has the sign " + (int) line.charAt(sign));
            }
            if (line.matches(" {4}(?: {4})?[a-zA-Z].*\\) ?\\{") || line.matches(" {12}throws .*\\{")) {
                begin = at;
            }
            if (line.matches(" {4}(?: {4})?\\}") && begin >= 0) {
                Check.note(at - begin <= 60, "rule 11: the method at line " + (begin + 1) + " is long");
                begin = -1;
            }
        }
        Check.same("rule 4: imports", imports, 1);
    }
}
