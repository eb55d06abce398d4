import java.lang.reflect.Field;
import java.lang.reflect.Method;
import java.lang.reflect.Modifier;
import java.nio.file.Files;
import java.nio.file.Path;
import java.util.ArrayList;
import java.util.List;
import java.util.Set;
import java.util.TreeSet;
import java.util.regex.Matcher;
import java.util.regex.Pattern;

/** What can be seen from outside of the rules in LANGUAGE.md; it is run where the project's folder is. */
public final class LanguageTest {
    private static final Set<String> FACE = Set.of("int most(int)", "int fact(int,int,int,int,int,int)", "int drop(int)",
            "int ofFact(int,int)", "int count(int)", "int isPossible()", "int bound(int,int,int)", "int sizeOf(int,int)",
            "int least(int,int)", "int solutions(int)", "int follows(int,int,int,int,int,int)", "int contradiction()",
            "int reason(int,int,int)", "int needless()", "int put(long)", "int wipe()", "int fault()", "int tell()", "int undo()",
            "int save(int)", "int restore(int)");
    private static final Set<String> CONSTANTS = Set.of("NO_SUCH", "BAD_VALUE", "BAD_TEXT", "TOO_MANY", "NOT_POSSIBLE", "NONE",
            "COUNT", "SIZE", "SUM", "GREATEST", "LEAST", "WITHIN", "MORE");

    private static final List<String> faults = new ArrayList<>();

    public static void main(String[] arguments) throws Exception {
        face();
        inside();
        String source = Files.readString(Path.of("src/main/java/BagCounts.java"));
        words(source);
        constructor(source);
        faults.forEach(System.out::println);
        System.out.println("LanguageTest: " + (faults.isEmpty() ? "all rules kept" : faults.size() + " faults"));
        if (!faults.isEmpty()) {
            System.exit(1);
        }
    }

    private static void check(boolean holds, String fault) {
        if (!holds) {
            faults.add(fault);
        }
    }

    /** Rule 1: the face, and nothing beside it that is not private. */
    private static void face() {
        int modifiers = BagCounts.class.getModifiers();
        check(Modifier.isPublic(modifiers) && Modifier.isFinal(modifiers), "the class is not public and final");
        check(BagCounts.class.getDeclaredConstructors().length == 1, "more than one constructor");
        Set<String> found = new TreeSet<>();
        for (Method method : BagCounts.class.getDeclaredMethods()) {
            if (Modifier.isPublic(method.getModifiers())) {
                found.add(shown(method));
            } else {
                check(Modifier.isPrivate(method.getModifiers()) || method.isSynthetic(), "not private: " + method);
            }
        }
        check(found.equals(new TreeSet<>(FACE)), "the face is " + found);
        Set<String> constants = new TreeSet<>();
        for (Field field : BagCounts.class.getDeclaredFields()) {
            if (Modifier.isPublic(field.getModifiers())) {
                constants.add(field.getName());
            } else {
                check(Modifier.isPrivate(field.getModifiers()), "not private: " + field);
            }
            check(Modifier.isFinal(field.getModifiers()) || !Modifier.isStatic(field.getModifiers()), "not final: " + field);
        }
        check(constants.equals(new TreeSet<>(CONSTANTS)), "the constants are " + constants);
    }

    private static String shown(Method method) {
        List<String> types = new ArrayList<>();
        for (Class<?> type : method.getParameterTypes()) {
            types.add(type.getSimpleName());
        }
        return method.getReturnType().getSimpleName() + " " + method.getName() + "(" + String.join(",", types) + ")";
    }

    /** Rules 1, 2, 5 and 11 for the classes inside. */
    private static void inside() {
        Class<?>[] classes = BagCounts.class.getDeclaredClasses();
        check(classes.length <= 12, classes.length + " classes inside");
        for (Class<?> one : classes) {
            check(Modifier.isStatic(one.getModifiers()), "not static: " + one);
            check(!Modifier.isPublic(one.getModifiers()), "public: " + one);
            int fields = 0;
            for (Field field : one.getDeclaredFields()) {
                if (Modifier.isStatic(field.getModifiers())) {
                    check(Modifier.isFinal(field.getModifiers()), "not final: " + field);
                } else {
                    fields++;
                }
            }
            check(fields <= 20, fields + " fields: " + one);
            for (Method method : one.getDeclaredMethods()) {
                check(FACE.stream().noneMatch(name -> name.contains(" " + method.getName() + "(")), "named as the face: " + method);
                check(method.getParameterCount() <= 7, "too many parameters: " + method);
            }
        }
    }

    /** Rules 2, 4, 6, 9 and 11, as far as words tell. */
    private static void words(String source) {
        String code = source.replaceAll("(?s)/\\*.*?\\*/", "").replaceAll("//.*", "").replaceAll("'[^']*'", "' '")
                .replaceAll("\"[^\"]*\"", "\" \"").replaceAll("\\b(case\\b[^;{}:]*|default\\s*)->", "")
                .replaceAll("import java\\.util\\.(ArrayList|List|Arrays|Iterator);", "").replace("@Override", "");
        Matcher word = Pattern.compile("\\b(import|package|throw|throws|try|catch|finally|synchronized|assert|volatile|native"
                + "|transient|strictfp|Object)\\b|\\b(equals\\(Object|int hashCode\\(|String toString\\()"
                + "|->|::|@|static\\s*\\{|\\bwhile\\s*\\(true").matcher(code);
        while (word.find()) {
            faults.add("the word " + word.group());
        }
        Matcher method = Pattern.compile("(?m)^( {4}| {8})\\S[^=;]*\\) \\{$").matcher(source);
        while (method.find()) {
            int end = source.indexOf("\n" + method.group(1) + "}", method.end());
            long lines = source.substring(method.start(), Math.max(end, method.end())).lines().count();
            check(lines <= 60, lines + " lines: " + method.group().trim());
        }
    }
    /** Rule 12: what the constructor makes gets constants alone, and nothing of the object. */
    private static void constructor(String source) {
        int start = source.indexOf("public BagCounts() {");
        String body = source.substring(Math.max(start, 0), source.indexOf("\n    }", Math.max(start, 0)));
        Matcher made = Pattern.compile("\\w+ = new \\w+\\((.*)\\);").matcher(body);
        int found = 0;
        while (made.find()) {
            found++;
            check(made.group(1).matches("[A-Z_]*"), "the constructor hands out " + made.group(1));
        }
        check(start >= 0 && found == body.lines().count() - 1, "the constructor does more than to make its fields");
    }
}
