import java.lang.reflect.Field;
import java.lang.reflect.Modifier;
import java.nio.file.Files;
import java.nio.file.Path;
import java.util.ArrayList;
import java.util.List;
import java.util.regex.Matcher;
import java.util.regex.Pattern;

/** What can be seen in the program's text of the rules of LANGUAGE.md. It runs in the project's directory. */
public final class LanguageTest {
    private static final Due due = new Due();

    public static void main(String[] args) throws Exception {
        String text = Files.readString(Path.of("src/main/java/DoorGuard.java"));
        String code = text.replaceAll("(?s)/\\*.*?\\*/", "").replaceAll("//[^\n]*", "").replaceAll("'.'", "0");
        words(code);
        library(code);
        staticFields(code);
        methods(code);
        fields();
        due.finish();
    }

    private static int count(String code, String pattern) {
        Matcher matcher = Pattern.compile(pattern).matcher(code);
        int some = 0;
        while (matcher.find()) {
            some++;
        }
        return some;
    }

    /** Rules 1, 2, 6 and 13. */
    private static void words(String code) {
        String[] without = {"package", "import", "throw", "throws", "try", "catch", "finally", "synchronized",
            "assert", "native", "volatile", "transient", "protected", "var", "Object", "Thread", "Random"};
        for (String word : without) {
            due.is("'" + word + "' in the program", count(code, "\\b" + word + "\\b"), 0);
        }
        due.is("lambdas and method references", count(code, "->|::"), 0);
        due.is("joining texts", count(code, "\""), 0);
        due.is("public classes", count(code, "public (final )?class"), 1);
        due.is("at most twelve classes", count(code, "\\bclass \\w+") <= 12, true);
        due.is("classes inside that are not static",
            count(code, "\\bclass \\w+") - count(code, "private static final class \\w+"), 1);
    }

    /** Rule 4: what is called of the library stands there. */
    private static void library(String code) {
        Matcher matcher = Pattern.compile("\\b(Math|Integer|Long|System|Arrays|String|StringBuilder|List|ArrayList)\\b\\.?(\\w*)")
            .matcher(code);
        while (matcher.find()) {
            String used = matcher.group(1) + "." + matcher.group(2);
            boolean stands = used.matches("Math\\.(max|min|abs)|Long\\.bitCount|System\\.arraycopy|Arrays\\.(copyOf|fill)");
            due.same("used of the library", stands ? "" : used, "");
        }
    }

    /** Rule 5. */
    private static void staticFields(String code) {
        int fields = count(code, "\\bstatic [^(){};=]*=");
        due.is("static fields that are no constants", fields - count(code, "\\bstatic final (int|long|boolean|char) \\w+ ="), 0);
        due.is("static initialisers", count(code, "\\bstatic \\{"), 0);
    }

    /** Rules 3 and 11: few fields to a class, and arrays of one dimension. */
    private static void fields() {
        List<Class<?>> classes = new ArrayList<>(List.of(DoorGuard.class.getDeclaredClasses()));
        classes.add(DoorGuard.class);
        for (Class<?> one : classes) {
            int some = 0;
            for (Field field : one.getDeclaredFields()) {
                some += Modifier.isStatic(field.getModifiers()) ? 0 : 1;
                due.is(field + " has two dimensions", field.getType().getName().startsWith("[["), false);
                due.is(field + " is private", Modifier.isPrivate(field.getModifiers()) || field.getName().equals("NONE"), true);
            }
            due.is(one + " has few fields", some <= 20, true);
        }
    }

    /** Rules 9 and 11. */
    private static void methods(String code) {
        Matcher heads = Pattern.compile("(?m)^( +)(?:public |private |static )*(?:[\\w\\[\\]]+ )?\\w+\\(([^()]*)\\) \\{$").matcher(code);
        int some = 0;
        while (heads.find()) {
            some++;
            int end = code.indexOf("\n" + heads.group(1) + "}\n", heads.end());
            int lines = count(code.substring(heads.end(), end), "\n");
            String head = heads.group().trim();
            due.is(head + " is short", lines <= 60, true);
            due.is(head + " takes few", count(heads.group(2), ",") < 7, true);
        }
        due.is("methods were looked at", some > 60, true);
        due.is("loops without a bound", count(code, "while \\(true\\)|for \\(;;"), 0);
    }
}
