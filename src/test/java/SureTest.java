import java.util.ArrayList;
import java.util.List;
import java.util.Random;

/**
 * about(code, 6) on long streams, each time the same ones, against Foresight. The units are chosen so that a favourite
 * code lives on for long; else most codes die at once, and nothing is left to be sure of.
 */
public final class SureTest {
    private static final int STREAMS = 1000;
    private static final int MOST_WRONG = 20;

    private final Check check;
    private final Random random;
    private int never = 0;
    private int atOnce = 0;
    private int midway = 0;
    private int atLast = 0;
    private int deadButSure = 0;

    private SureTest(Check check, long seed) {
        this.check = check;
        this.random = new Random(seed);
    }

    public static void main(String[] args) {
        int streams = args.length > 0 ? Integer.parseInt(args[0]) : STREAMS;
        long seed = args.length > 1 ? Long.parseLong(args[1]) : 20261118L;
        Check check = new Check("SureTest");
        SureTest test = new SureTest(check, seed);
        for (int i = 0; i < streams && check.wrong() < MOST_WRONG; i++) {
            test.oneStream();
        }
        test.looksAtAllKinds(streams / 100);
        check.end();
    }

    /** Answers that are nearly all alike would show little. */
    private void looksAtAllKinds(int enough) {
        System.out.println("about(code, 6): NONE " + never + ", 0 " + atOnce + ", between " + midway
            + ", at the last unit " + atLast + "; not alive but sure earlier " + deadButSure);
        check.holds("enough answers NONE", never > enough);
        check.holds("enough answers 0", atOnce > enough);
        check.holds("enough answers between", midway > enough);
        check.holds("enough answers at the last unit", atLast > enough);
        check.holds("enough codes that were sure and died", deadButSure > enough);
    }

    private void oneStream() {
        List<String> texts = new ArrayList<>();
        for (int i = 1 + random.nextInt(4); i > 0; i--) {
            // twins and near twins are the ones that are hard to tell apart
            boolean near = !texts.isEmpty() && random.nextInt(3) > 0;
            texts.add(near ? nearTo(texts.get(random.nextInt(texts.size()))) : text());
        }
        int length = 8 + random.nextInt(33);
        CodeJudge judge = Check.judge(texts.toArray(new String[0]));
        check.due("open(" + length + ")", judge.open(length), 0);
        String favourite = texts.get(random.nextInt(texts.size()));
        String units = "";
        int[] sure = new int[texts.size()];
        Foresight foresight = new Foresight(texts);
        ask(judge, foresight, texts, units, length, sure);
        for (int come = 1; come <= length; come++) {
            units += nextUnit(favourite, units);
            judge.feed(units.charAt(come - 1) - '0');
            ask(judge, foresight, texts, units, length, sure);
        }
    }

    /** The smallest N is kept from one unit to the next: a further unit adds a further N, and changes no earlier one. */
    private void ask(CodeJudge judge, Foresight foresight, List<String> texts, String units, int length, int[] sure) {
        int come = units.length();
        for (int code = 0; code < texts.size(); code++) {
            if (come == 0 || sure[code] == CodeJudge.NONE) {
                sure[code] = foresight.isSure(code, units, length - come) ? come : CodeJudge.NONE;
            }
            String told = "about(" + code + ", 6) of " + texts + ", length " + length + ", units " + units;
            check.due(told, judge.about(code, 6), sure[code]);
            if (come == length) {
                countKind(sure[code], length, judge.about(code, 1) == 1);
            }
        }
    }

    private void countKind(int sure, int length, boolean alive) {
        if (sure == CodeJudge.NONE) {
            never++;
        } else if (sure == 0) {
            atOnce++;
        } else if (sure < length) {
            midway++;
        } else {
            atLast++;
        }
        deadButSure += sure > 0 && !alive ? 1 : 0;
    }

    private int nextUnit(String favourite, String units) {
        int unit = random.nextInt(8);
        for (int i = 0; i < 40 && PlainJudge.read(favourite, units + unit).bad != PlainJudge.NONE; i++) {
            unit = random.nextInt(8);
        }
        return unit;
    }

    private String text() {
        char kind = "fpct".charAt(random.nextInt(4));
        StringBuilder text = new StringBuilder().append(kind);
        if (kind == 'p' || kind == 't') {
            text.append(1 + random.nextInt(7));
        }
        for (int i = kind == 't' ? 16 : 8; i > 0; i--) {
            text.append(mark(kind));
        }
        for (int i = 0; i < 4; i++) {
            text.append(random.nextInt(10));
        }
        return text.toString();
    }

    private char mark(char kind) {
        String marks = kind == 'c' ? "abcdef+++" : "aaaabbbb!";
        return marks.charAt(random.nextInt(marks.length()));
    }

    /** One mark and one of the points are drawn again. */
    private String nearTo(String other) {
        StringBuilder text = new StringBuilder(other);
        int points = text.length() - 4;
        text.setCharAt(points - 1 - random.nextInt(8), mark(text.charAt(0)));
        text.setCharAt(points + random.nextInt(4), (char) ('0' + random.nextInt(10)));
        return text.toString();
    }
}
