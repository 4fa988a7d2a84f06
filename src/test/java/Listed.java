import java.math.BigInteger;

/** The digest's list as the other calls answer it, reckoned without any bound and cut to a long at the end. */
final class Listed {
    private static final int LONGEST_TEXT = 22;

    private final CodeJudge judge;
    private BigInteger h = BigInteger.valueOf(1511);

    private Listed(CodeJudge judge) {
        this.judge = judge;
    }

    /** The page cannot be asked for, so whoever asks has to know it. */
    static long digest(CodeJudge judge, String page) {
        return whole(judge, page).longValue();
    }

    static BigInteger whole(CodeJudge judge, String page) {
        Listed listed = new Listed(judge);
        for (int code = 0; code < judge.count(0); code++) {
            listed.code(code);
        }
        for (int place = 0; place < judge.count(1); place++) {
            listed.add(judge.unit(place));
        }
        listed.add(judge.judged());
        listed.division();
        for (int i = 0; i < page.length(); i++) {
            listed.add(page.charAt(i));
        }
        for (int what = 0; what <= 7; what++) {
            listed.add(judge.count(what));
        }
        return listed.h;
    }

    private void add(long value) {
        h = h.multiply(BigInteger.valueOf(31)).add(BigInteger.valueOf(value));
    }

    private void code(int code) {
        for (int place = 0; place < LONGEST_TEXT && judge.ink(code, place) != CodeJudge.UNKNOWN; place++) {
            add(judge.ink(code, place));
        }
        for (int what = 0; what <= 7; what++) {
            add(judge.about(code, what));
        }
        for (int sorts = 0; sorts <= 3; sorts++) {
            add(judge.pairs(code, sorts));
        }
        add(judge.rows(code, 5));
        for (int other = 0; other < judge.count(0); other++) {
            add(judge.apart(code, other));
        }
    }

    private void division() {
        if (judge.cuts(0) == CodeJudge.STATE) {
            return;
        }
        add(judge.cuts(0));
        add(judge.cuts(1));
        for (int piece = 0; piece < judge.cuts(1); piece++) {
            for (int what = 0; what <= 2; what++) {
                add(judge.piece(piece, what));
            }
        }
    }
}
