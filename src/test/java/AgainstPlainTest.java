import java.util.Random;

/** Runs of calls, the same ones each time, that must be answered as PlainJudge answers them. */
public final class AgainstPlainTest {
    private static final int RUNS = 400;
    private static final int CALLS = 90;

    private static final String[] ASKING = {
        "fault", "ink", "unit", "about", "about", "about", "points", "pairs", "judged", "rank",
        "rows", "apart", "tells", "cuts", "piece", "piece", "count",
    };

    private final Check check;
    private final Random random;
    private CodeJudge judge;
    private PlainJudge plain;
    private String run;

    private AgainstPlainTest(Check check, long seed) {
        this.check = check;
        this.random = new Random(seed);
    }

    public static void main(String[] args) {
        int runs = args.length > 0 ? Integer.parseInt(args[0]) : RUNS;
        long seed = args.length > 1 ? Long.parseLong(args[1]) : 20261118L;
        Check check = new Check("AgainstPlainTest");
        AgainstPlainTest test = new AgainstPlainTest(check, seed);
        for (int i = 0; i < runs && check.wrong() < 20; i++) {
            test.oneRun(i);
        }
        check.end();
    }

    private void oneRun(int number) {
        judge = new CodeJudge();
        plain = new PlainJudge();
        run = "run " + number + ":";
        // few units leave few rows to try; long streams come too, where being sure is reckoned
        call("open", random.nextInt(4) == 0 ? 1 + random.nextInt(40) : 1 + random.nextInt(7));
        for (int i = random.nextInt(4); i >= 0; i--) {
            addCode();
        }
        for (int i = 0; i < CALLS; i++) {
            oneStep();
        }
        call("digest");
    }

    private void oneStep() {
        int dice = random.nextInt(100);
        if (dice < 6) {
            addCode();
        } else if (dice < 9) {
            call("drop");
        } else if (dice < 30) {
            call("feed", random.nextInt(30) == 0 ? number(8) : random.nextInt(8));
        } else if (dice < 34) {
            type(digits(random.nextInt(8)));
            call("feeds");
            call("blank");
        } else if (dice < 40) {
            call("back");
        } else if (dice < 42) {
            call("open", random.nextInt(5) == 0 ? number(41) : 1 + random.nextInt(8));
        } else if (dice < 44) {
            call("letter", random.nextInt(3) == 0 ? number(130) : 32 + random.nextInt(95));
        } else if (dice < 46) {
            call("digest");
        } else {
            ask(ASKING[random.nextInt(ASKING.length)]);
        }
    }

    private void ask(String method) {
        switch (method) {
            case "fault": case "judged": call(method); break;
            case "ink": call(method, number(4), number(22)); break;
            case "unit": call(method, number(10)); break;
            case "about": call(method, number(4), number(8)); break;
            case "points": case "pairs": call(method, number(4), number(4)); break;
            case "rank": call(method, number(4)); break;
            case "rows": call(method, number(4), number(10)); break;
            case "apart": call(method, number(4), number(4)); break;
            case "tells": call(method, number(4), number(4), number(3)); break;
            case "cuts": call(method, number(2)); break;
            case "piece": call(method, number(3), number(3)); break;
            default: call(method, number(8));
        }
    }

    /** Mostly below the bound, now and then at it, far above it, or below zero. */
    private int number(int bound) {
        int dice = random.nextInt(40);
        if (dice == 0) {
            return -1;
        }
        if (dice == 1) {
            return bound;
        }
        if (dice == 2) {
            return random.nextBoolean() ? Integer.MAX_VALUE : Integer.MIN_VALUE;
        }
        return random.nextInt(bound);
    }

    private void call(String method, int... numbers) {
        if (check.wrong() >= 20) {
            return;
        }
        String told = Script.told(method, numbers);
        long due = plain.answer(method, numbers);
        long got = Calls.answer(judge, method, numbers);
        check.due(run + " " + told, got, due);
        if (check.wrong() > 0) {
            run += " " + told;
        }
    }

    private void type(String text) {
        for (int i = 0; i < text.length(); i++) {
            call("letter", text.charAt(i));
        }
    }

    private void addCode() {
        call("blank");
        type(text());
        if (random.nextInt(3) == 0) {
            call("fault");
        }
        call("code");
        call("blank");
    }

    private String text() {
        char kind = "fpct".charAt(random.nextInt(4));
        String digit = kind == 'p' ? "" + (1 + random.nextInt(7)) : kind == 't' ? "" + random.nextInt(8) : "";
        String common = random.nextBoolean() ? "ab" : "aab!";
        String signs = kind == 'c' ? (random.nextBoolean() ? "abcdef+!" : "abcdef+++") : common;
        StringBuilder text = new StringBuilder().append(kind).append(digit);
        for (int i = kind == 't' ? 16 : 8; i > 0; i--) {
            text.append(signs.charAt(random.nextInt(signs.length())));
        }
        String points = random.nextBoolean() ? "0123456789" : "0011";
        for (int i = 0; i < 4; i++) {
            text.append(points.charAt(random.nextInt(points.length())));
        }
        return random.nextInt(12) == 0 ? spoiled(text) : text.toString();
    }

    private String spoiled(StringBuilder text) {
        int place = random.nextInt(text.length());
        switch (random.nextInt(3)) {
            case 0: return text.deleteCharAt(place).toString();
            case 1: return text.append("0123456789").toString();
            default: text.setCharAt(place, (char) (32 + random.nextInt(95)));
        }
        return text.toString();
    }

    private String digits(int count) {
        StringBuilder digits = new StringBuilder();
        for (int i = 0; i < count; i++) {
            digits.append(random.nextInt(12) == 0 ? "8x".charAt(random.nextInt(2)) : (char) ('0' + random.nextInt(8)));
        }
        return digits.toString();
    }
}
