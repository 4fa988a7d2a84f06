import java.util.Map;

/**
 * Plays a run of calls on a new object. A run is written as the document's examples are, row behind row with "; ":
 * <pre>
 * load TEXT               types the text of a code, and reads it
 * page TEXT               types a text
 * units DIGITS            types units, and lets them come
 * about(0, 4) = 7         a call with the answer that is due; an error code may stand by its name
 * about(0, *) = 0 1 1     the same call with 0, 1, 2 .. in place of the *, each with its own answer
 * </pre>
 */
final class Script {
    private static final int MOST_CALLS = 512;
    private static final Map<String, Integer> NAMES = Map.of(
        "NONE", -1, "UNKNOWN", -101, "OUTSIDE", -102, "STATE", -103, "FULL", -104,
        "LEAST", Integer.MIN_VALUE, "MOST", Integer.MAX_VALUE);

    /** Whoever answers calls: the program, or the plain model of it. */
    interface Answering {
        long answer(String method, int... numbers);
    }

    private final Check check;
    private final String name;
    private final Answering judge;
    /** Whether the state is looked at before and behind each refused call. */
    private final boolean watched;
    private int calls = 0;

    private Script(Check check, String name, Answering judge, boolean watched) {
        this.check = check;
        this.name = name;
        this.judge = judge;
        this.watched = watched;
    }

    /**
     * Plays the run on the program twice, the second time with a look at the state before and behind each refused
     * call, and on the plain model too, so that no answer is due here that the model does not give.
     */
    static void play(Check check, String name, String run) {
        begin(check, name, new CodeJudge(), run);
        CodeJudge looked = new CodeJudge();
        new Script(check, name + ", watched", (method, n) -> Calls.answer(looked, method, n), true).rows(run);
        new Script(check, name + ", plain model", new PlainJudge()::answer, false).rows(run);
    }

    /** Plays the run on this object, as a beginning for what a test does with it. */
    static void begin(Check check, String name, CodeJudge judge, String run) {
        new Script(check, name, (method, n) -> Calls.answer(judge, method, n), false).rows(run);
    }

    private void rows(String run) {
        for (String row : run.split(";")) {
            String told = row.trim();
            if (!told.isEmpty()) {
                row(told);
            }
        }
        check.holds(name + ": at most 512 calls", calls <= MOST_CALLS);
    }

    private void row(String row) {
        int space = row.indexOf(' ');
        String word = space < 0 ? row : row.substring(0, space);
        switch (word) {
            case "load": load(row.substring(space + 1)); break;
            case "page": type(row.substring(space + 1)); break;
            case "units": units(row.substring(space + 1)); break;
            default: calls(row);
        }
    }

    private void load(String text) {
        long before = ask("count", 0);
        type(text);
        call(before, "code");
    }

    private void units(String digits) {
        long before = ask("count", 1);
        type(digits);
        call(before + digits.length(), "feeds");
    }

    private void type(String text) {
        long before = ask("count", 5);
        for (int i = 0; i < text.length(); i++) {
            call(before + i + 1, "letter", text.charAt(i));
        }
    }

    private void calls(String row) {
        String[] sides = row.split(" = ");
        if (sides.length != 2) {
            throw new IllegalArgumentException(row);
        }
        String[] answers = sides[1].trim().split(" ");
        if (answers.length > 1 && sides[0].indexOf('*') < 0) {
            throw new IllegalArgumentException(row);
        }
        for (int i = 0; i < answers.length; i++) {
            oneCall(sides[0].replace("*", "" + i), number(answers[i]));
        }
    }

    private void oneCall(String told, long due) {
        int bracket = told.indexOf('(');
        String inside = told.substring(bracket + 1, told.length() - 1).trim();
        String[] words = inside.isEmpty() ? new String[0] : inside.split(", *");
        int[] numbers = new int[words.length];
        for (int i = 0; i < words.length; i++) {
            numbers[i] = (int) number(words[i]);
        }
        call(due, told.substring(0, bracket), numbers);
    }

    private static long number(String word) {
        Integer named = NAMES.get(word);
        return named != null ? named : Long.parseLong(word);
    }

    private long ask(String method, int... numbers) {
        calls++;
        return judge.answer(method, numbers);
    }

    private void call(long due, String method, int... numbers) {
        boolean looked = watched && isError(due);
        long before = looked ? ask("digest") : 0;
        long got = ask(method, numbers);
        check.due(name + ": " + told(method, numbers), got, due);
        if (looked) {
            check.due(name + ": digest() behind the refused " + told(method, numbers), ask("digest"), before);
        }
    }

    private static boolean isError(long answer) {
        return answer <= -101 && answer >= -104;
    }

    static String told(String method, int... numbers) {
        StringBuilder told = new StringBuilder(method).append('(');
        for (int i = 0; i < numbers.length; i++) {
            told.append(i == 0 ? "" : ", ").append(numbers[i]);
        }
        return told.append(')').toString();
    }
}
