/** Calls a method of the face by its name. */
final class Calls {
    private Calls() {
    }

    static long answer(CodeJudge judge, String method, int... n) {
        switch (method) {
            case "letter": return judge.letter(n[0]);
            case "blank": return judge.blank();
            case "fault": return judge.fault();
            case "code": return judge.code();
            case "drop": return judge.drop();
            case "ink": return judge.ink(n[0], n[1]);
            case "open": return judge.open(n[0]);
            case "feed": return judge.feed(n[0]);
            case "feeds": return judge.feeds();
            case "back": return judge.back();
            case "unit": return judge.unit(n[0]);
            case "about": return judge.about(n[0], n[1]);
            case "points": return judge.points(n[0], n[1]);
            case "pairs": return judge.pairs(n[0], n[1]);
            case "judged": return judge.judged();
            case "rank": return judge.rank(n[0]);
            case "rows": return judge.rows(n[0], n[1]);
            case "apart": return judge.apart(n[0], n[1]);
            case "tells": return judge.tells(n[0], n[1], n[2]);
            case "cuts": return judge.cuts(n[0]);
            case "piece": return judge.piece(n[0], n[1]);
            case "count": return judge.count(n[0]);
            case "digest": return judge.digest();
            default: throw new IllegalArgumentException(method);
        }
    }
}
