import java.io.IOException;
import java.lang.reflect.Constructor;
import java.lang.reflect.Field;
import java.lang.reflect.Method;
import java.lang.reflect.Modifier;
import java.nio.file.Files;
import java.nio.file.Path;
import java.util.ArrayList;
import java.util.HashSet;
import java.util.LinkedHashMap;
import java.util.List;
import java.util.Map;
import java.util.Set;
import java.util.TreeSet;
import java.util.regex.Matcher;
import java.util.regex.Pattern;

/** The rules of LANGUAGE.md that can be seen from outside, and the document's face. */
public final class LanguageTest {
    private static final String[] FACE = {
        "int letter(int)", "int blank()", "int fault()", "int code()", "int drop()", "int ink(int, int)", "int open(int)",
        "int feed(int)", "int feeds()", "int back()", "int unit(int)", "int about(int, int)", "int points(int, int)",
        "int pairs(int, int)", "int judged()", "int rank(int)", "int rows(int, int)", "int apart(int, int)",
        "int tells(int, int, int)", "int cuts(int)", "int piece(int, int)", "int count(int)", "long digest()",
    };
    private static final Set<String> CONSTANTS = Set.of("NONE", "UNKNOWN", "OUTSIDE", "STATE", "FULL");
    private static final String FORBIDDEN =
        "\\b(throw|throws|try|catch|synchronized|assert|package|\\w+Exact|System\\.(?!arraycopy)|Thread|Random)\\b|->|::";

    private static final int MOST_DEEP = 8;

    private final Check check = new Check("LanguageTest");
    private final Set<String> faceNames = new HashSet<>();

    public static void main(String[] args) throws IOException {
        LanguageTest test = new LanguageTest();
        test.face();
        test.constants();
        test.classLooks(CodeJudge.class);
        Class<?>[] inside = CodeJudge.class.getDeclaredClasses();
        test.check.holds("at most twelve classes", inside.length < 12);
        for (Class<?> own : inside) {
            test.check.holds(own + " is static", Modifier.isStatic(own.getModifiers()));
            test.check.holds(own + " is not public", !Modifier.isPublic(own.getModifiers()));
            test.classLooks(own);
            test.ownNames(own);
        }
        test.source(Files.readString(Path.of("src/main/java/CodeJudge.java")));
        test.check.end();
    }

    private void face() throws IOException {
        check.holds("public and final", (CodeJudge.class.getModifiers() & (Modifier.PUBLIC | Modifier.FINAL)) == 17);
        Constructor<?>[] makers = CodeJudge.class.getDeclaredConstructors();
        check.holds("one public constructor without arguments", makers.length == 1
            && makers[0].getParameterCount() == 0 && Modifier.isPublic(makers[0].getModifiers()));
        Set<String> found = new TreeSet<>();
        for (Method method : CodeJudge.class.getDeclaredMethods()) {
            if (Modifier.isPublic(method.getModifiers())) {
                found.add(told(method));
                faceNames.add(method.getName());
            }
        }
        check.holds("the face is " + found, found.equals(new TreeSet<>(Set.of(FACE))));
        check.holds("the document's face is " + faceOfDocument(), found.equals(faceOfDocument()));
        for (Method method : CodeJudge.class.getDeclaredMethods()) {
            boolean isPrivate = Modifier.isPrivate(method.getModifiers());
            check.holds(method + " is of the face or private", isPrivate || Modifier.isPublic(method.getModifiers()));
            check.holds(method + " has a name of its own", !isPrivate || !faceNames.contains(method.getName()));
        }
    }

    /** The methods as the document's section "The public face" lists them, without the names of their arguments. */
    private static Set<String> faceOfDocument() throws IOException {
        String document = Files.readString(Path.of("../shared/DOC.md"));
        Set<String> listed = new TreeSet<>();
        Matcher method = Pattern.compile("(?m)^ +public ((?:int|long) \\w+\\(.*\\));$").matcher(document);
        while (method.find()) {
            listed.add(method.group(1).replaceAll("int \\w+(?=[,)])", "int"));
        }
        return listed;
    }

    private static String told(Method method) {
        StringBuilder types = new StringBuilder();
        for (Class<?> type : method.getParameterTypes()) {
            types.append(types.length() == 0 ? "" : ", ").append(type.getName());
        }
        return method.getReturnType().getName() + " " + method.getName() + "(" + types + ")";
    }

    private void constants() {
        check.due("NONE", CodeJudge.NONE, -1);
        check.due("UNKNOWN", CodeJudge.UNKNOWN, -101);
        check.due("OUTSIDE", CodeJudge.OUTSIDE, -102);
        check.due("STATE", CodeJudge.STATE, -103);
        check.due("FULL", CodeJudge.FULL, -104);
        for (Field field : CodeJudge.class.getDeclaredFields()) {
            boolean open = CONSTANTS.contains(field.getName());
            int wanted = open ? Modifier.PUBLIC | Modifier.STATIC | Modifier.FINAL : Modifier.PRIVATE;
            check.holds(field + " is seen as it should", (field.getModifiers() & wanted) == wanted);
        }
    }

    private void classLooks(Class<?> own) {
        int fields = 0;
        for (Field field : own.getDeclaredFields()) {
            if (Modifier.isStatic(field.getModifiers())) {
                check.holds(field + " is final", Modifier.isFinal(field.getModifiers()));
            } else {
                fields++;
            }
        }
        check.holds(own + " has at most twenty fields", fields <= 20);
        for (Method method : own.getDeclaredMethods()) {
            check.holds(method + " takes at most seven", method.getParameterCount() <= 7);
        }
    }

    private void ownNames(Class<?> own) {
        for (Method method : own.getDeclaredMethods()) {
            check.holds(method + " has a name of its own", !faceNames.contains(method.getName()));
        }
    }

    private void source(String text) {
        String code = text.replaceAll("(?s)/\\*.*?\\*/", "").replaceAll("//[^\n]*", "");
        Map<String, String> bodies = bodies(code);
        check.holds("the methods are found", bodies.keySet().containsAll(faceNames));
        for (String method : bodies.keySet()) {
            deepen(bodies, new ArrayList<>(), method);
        }
        Matcher forbidden = Pattern.compile(FORBIDDEN).matcher(code);
        while (forbidden.find()) {
            check.holds("without " + forbidden.group(), false);
        }
        Matcher imported = Pattern.compile("import ([\\w.*]+);").matcher(code);
        while (imported.find()) {
            check.holds("import " + imported.group(1), imported.group(1).matches("java\\.util\\.(Arrays|ArrayList|List)"));
        }
    }

    /** What stands in the methods, by their names; methods of the same name are taken together. */
    private Map<String, String> bodies(String code) {
        Map<String, String> bodies = new LinkedHashMap<>();
        Matcher method = Pattern.compile("(?m)^ +(?:(?:public|private|static) )*[\\w\\[\\]]+ (\\w+)\\([^)]*\\) \\{$").matcher(code);
        while (method.find()) {
            int end = method.end();
            for (int open = 1; open > 0; end++) {
                open += code.charAt(end) == '{' ? 1 : code.charAt(end) == '}' ? -1 : 0;
            }
            String body = code.substring(method.end(), end);
            check.holds(method.group(1) + " has at most sixty lines", body.lines().count() <= 60);
            bodies.merge(method.group(1), body, String::concat);
        }
        return bodies;
    }

    /** Goes down every row of calls from the method on; none may come back to itself, or stand more than eight deep. */
    private void deepen(Map<String, String> bodies, List<String> row, String method) {
        check.holds(row + " does not call itself by " + method, !row.contains(method));
        List<String> longer = new ArrayList<>(row);
        longer.add(method);
        check.holds(longer + " is at most " + MOST_DEEP + " deep", longer.size() <= MOST_DEEP);
        if (row.contains(method) || longer.size() > MOST_DEEP) {
            return;
        }
        Set<String> called = new TreeSet<>();
        Matcher call = Pattern.compile("\\b(\\w+)\\(").matcher(bodies.get(method));
        while (call.find()) {
            if (bodies.containsKey(call.group(1))) {
                called.add(call.group(1));
            }
        }
        for (String next : called) {
            deepen(bodies, longer, next);
        }
    }
}
