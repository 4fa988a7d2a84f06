import java.io.IOException;
import java.lang.reflect.Constructor;
import java.lang.reflect.Field;
import java.lang.reflect.Method;
import java.lang.reflect.Modifier;
import java.nio.file.Files;
import java.nio.file.Path;
import java.util.HashSet;
import java.util.Set;
import java.util.TreeSet;
import java.util.regex.Matcher;
import java.util.regex.Pattern;

/** The rules of LANGUAGE.md that can be seen from outside, and the document's face. */
public final class LanguageTest {
    private static final String[] FACE = {
        "int letter(int)", "int blank()", "int fault()", "int code()", "int drop()", "int ink(int, int)", "int open(int)",
        "int feed(int)", "int feeds()", "int back()", "int unit(int)", "int about(int, int)", "int points(int, int)",
        "int pairs(int, int)", "int judged()", "int rank(int)", "int rows(int, int)", "int apart(int, int)",
        "int tells(int, int, int)", "int cuts(int)", "int piece(int, int)", "int count(int)", "long digest()",
    };
    private static final Set<String> CONSTANTS = Set.of("NONE", "UNKNOWN", "OUTSIDE", "STATE", "FULL");
    private static final String FORBIDDEN =
        "\\b(throw|throws|try|catch|synchronized|assert|package|\\w+Exact|System\\.(?!arraycopy)|Thread|Random)\\b|->|::";

    private final Check check = new Check("LanguageTest");
    private final Set<String> faceNames = new HashSet<>();

    public static void main(String[] args) throws IOException {
        LanguageTest test = new LanguageTest();
        test.face();
        test.constants();
        test.classLooks(CodeJudge.class);
        Class<?>[] inside = CodeJudge.class.getDeclaredClasses();
        test.check.holds("at most twelve classes", inside.length < 12);
        for (Class<?> own : inside) {
            test.check.holds(own + " is static", Modifier.isStatic(own.getModifiers()));
            test.check.holds(own + " is not public", !Modifier.isPublic(own.getModifiers()));
            test.classLooks(own);
            test.ownNames(own);
        }
        test.source(Files.readString(Path.of("src/main/java/CodeJudge.java")));
        test.check.end();
    }

    private void face() {
        check.holds("public and final", (CodeJudge.class.getModifiers() & (Modifier.PUBLIC | Modifier.FINAL)) == 17);
        Constructor<?>[] makers = CodeJudge.class.getDeclaredConstructors();
        check.holds("one public constructor without arguments", makers.length == 1
            && makers[0].getParameterCount() == 0 && Modifier.isPublic(makers[0].getModifiers()));
        Set<String> found = new TreeSet<>();
        for (Method method : CodeJudge.class.getDeclaredMethods()) {
            if (Modifier.isPublic(method.getModifiers())) {
                found.add(told(method));
                faceNames.add(method.getName());
            }
        }
        check.holds("the face is " + found, found.equals(new TreeSet<>(Set.of(FACE))));
        for (Method method : CodeJudge.class.getDeclaredMethods()) {
            boolean isPrivate = Modifier.isPrivate(method.getModifiers());
            check.holds(method + " is of the face or private", isPrivate || Modifier.isPublic(method.getModifiers()));
            check.holds(method + " has a name of its own", !isPrivate || !faceNames.contains(method.getName()));
        }
    }

    private static String told(Method method) {
        StringBuilder types = new StringBuilder();
        for (Class<?> type : method.getParameterTypes()) {
            types.append(types.length() == 0 ? "" : ", ").append(type.getName());
        }
        return method.getReturnType().getName() + " " + method.getName() + "(" + types + ")";
    }

    private void constants() {
        check.due("NONE", CodeJudge.NONE, -1);
        check.due("UNKNOWN", CodeJudge.UNKNOWN, -101);
        check.due("OUTSIDE", CodeJudge.OUTSIDE, -102);
        check.due("STATE", CodeJudge.STATE, -103);
        check.due("FULL", CodeJudge.FULL, -104);
        for (Field field : CodeJudge.class.getDeclaredFields()) {
            boolean open = CONSTANTS.contains(field.getName());
            int wanted = open ? Modifier.PUBLIC | Modifier.STATIC | Modifier.FINAL : Modifier.PRIVATE;
            check.holds(field + " is seen as it should", (field.getModifiers() & wanted) == wanted);
        }
    }

    private void classLooks(Class<?> own) {
        int fields = 0;
        for (Field field : own.getDeclaredFields()) {
            if (Modifier.isStatic(field.getModifiers())) {
                check.holds(field + " is final", Modifier.isFinal(field.getModifiers()));
            } else {
                fields++;
            }
        }
        check.holds(own + " has at most twenty fields", fields <= 20);
        for (Method method : own.getDeclaredMethods()) {
            check.holds(method + " takes at most seven", method.getParameterCount() <= 7);
        }
    }

    private void ownNames(Class<?> own) {
        for (Method method : own.getDeclaredMethods()) {
            check.holds(method + " has a name of its own", !faceNames.contains(method.getName()));
        }
    }

    private void source(String text) {
        String code = text.replaceAll("(?s)/\\*.*?\\*/", "").replaceAll("//[^\n]*", "");
        Matcher forbidden = Pattern.compile(FORBIDDEN).matcher(code);
        while (forbidden.find()) {
            check.holds("without " + forbidden.group(), false);
        }
        Matcher imported = Pattern.compile("import ([\\w.*]+);").matcher(code);
        while (imported.find()) {
            check.holds("import " + imported.group(1), imported.group(1).matches("java\\.util\\.(Arrays|ArrayList|List)"));
        }
    }
}
