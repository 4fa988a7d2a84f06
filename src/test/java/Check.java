/** Counts and tells the answers that are not as due. */
final class Check {
    private final String name;
    private int calls = 0;
    private int wrong = 0;

    Check(String name) {
        this.name = name;
    }

    void due(String call, long got, long want) {
        calls++;
        if (got != want) {
            wrong++;
            System.out.println(name + ": " + call + " answered " + got + ", due is " + want);
        }
    }

    void holds(String what, boolean isSo) {
        calls++;
        if (!isSo) {
            wrong++;
            System.out.println(name + ": " + what + " does not hold");
        }
    }

    int wrong() {
        return wrong;
    }

    /** Ends the test, with exit code 1 if an answer was wrong or nothing was asked at all. */
    void end() {
        System.out.println(name + ": " + calls + " answers, " + wrong + " not as due");
        if (wrong != 0 || calls == 0) {
            System.exit(1);
        }
    }

    static void type(CodeJudge judge, String text) {
        for (int i = 0; i < text.length(); i++) {
            judge.letter(text.charAt(i));
        }
    }

    /** A judge with the codes of these texts. */
    static CodeJudge judge(String... texts) {
        CodeJudge judge = new CodeJudge();
        for (String text : texts) {
            type(judge, text);
            judge.code();
        }
        return judge;
    }

    static void stream(CodeJudge judge, String units) {
        type(judge, units);
        judge.feeds();
    }
}
