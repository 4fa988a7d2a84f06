import java.util.ArrayList;
import java.util.HashMap;
import java.util.LinkedHashMap;
import java.util.List;
import java.util.Map;
import java.util.TreeMap;
import java.util.regex.Matcher;
import java.util.regex.Pattern;

/**
 * The document told once more, in the plainest way and without any of the program's tables:
 * each row is read from its first unit on, and what all rows have is found by trying rows.
 * Rows after which nothing can differ any more are tried once. Where that leaves too many,
 * Foresight tells whether a code is sure; where it does not, both must tell the same.
 */
final class PlainJudge {
    static final int NONE = -1, UNKNOWN = -101, OUTSIDE = -102, STATE = -103, FULL = -104;
    private static final int MOST_UNITS_TRIED = 6;
    private static final int MOST_ROWS_TRIED = 1500;

    private static final Pattern TEXT = Pattern.compile(
        "f[ab!]{8}[0-9]{4}|p[1-7][ab!]{8}[0-9]{4}|c[abcdef+!]{8}[0-9]{4}|t[0-7][ab!]{16}[0-9]{4}");

    private String page = "";
    private String stream = "";
    private int length = 40;
    private final List<String> codes = new ArrayList<>();
    private int codesEver = 0;
    private int unitsEver = 0;

    /** What a code makes of a row. */
    static final class Told {
        String sorts = "";
        int bad = NONE;
        /** What the end of the row leaves over: empty if the row is whole. */
        String left = "";

        boolean valid() {
            return bad == NONE && left.isEmpty();
        }

        int pairs(String two) {
            int found = 0;
            for (int i = 0; i + 1 < sorts.length(); i++) {
                if (sorts.startsWith(two, i)) {
                    found++;
                }
            }
            return found;
        }
    }

    static Told read(String text, String row) {
        Told told = new Told();
        switch (text.charAt(0)) {
            case 'f': readFlat(text, row, told); break;
            case 'p': readPaired(text, row, told); break;
            case 'c': readCounted(text, row, told); break;
            default: readTurned(text, row, told);
        }
        return told;
    }

    private static int unit(String row, int place) {
        return row.charAt(place) - '0';
    }

    private static boolean sign(Told told, char mark, int place) {
        if (mark == '!') {
            told.bad = place;
            return false;
        }
        told.sorts += mark;
        return true;
    }

    private static void readFlat(String text, String row, Told told) {
        for (int i = 0; i < row.length(); i++) {
            if (!sign(told, text.charAt(1 + unit(row, i)), i)) {
                return;
            }
        }
    }

    private static void readPaired(String text, String row, Told told) {
        int q = text.charAt(1) - '0';
        int i = 0;
        while (i < row.length()) {
            if (unit(row, i) >= q) {
                i++;
                if (i == row.length()) {
                    told.left = "second";
                    return;
                }
            }
            if (!sign(told, text.charAt(2 + unit(row, i)), i)) {
                return;
            }
            i++;
        }
    }

    private static void readCounted(String text, String row, Told told) {
        int i = 0;
        while (i < row.length()) {
            char mark = text.charAt(1 + unit(row, i));
            if (mark == '+' || mark == '!') {
                told.bad = i;
                return;
            }
            int wanted = "ab".indexOf(mark) >= 0 ? 0 : "cd".indexOf(mark) >= 0 ? 1 : 2;
            char sort = "ace".indexOf(mark) >= 0 ? 'a' : 'b';
            i++;
            for (; wanted > 0 && i < row.length(); wanted--, i++) {
                if (text.charAt(1 + unit(row, i)) != '+') {
                    told.bad = i;
                    return;
                }
            }
            if (wanted > 0) {
                told.left = wanted + " more for " + sort;
                return;
            }
            told.sorts += sort;
        }
    }

    private static void readTurned(String text, String row, Told told) {
        int q = text.charAt(1) - '0';
        boolean over = false;
        for (int i = 0; i < row.length(); i++) {
            int unit = unit(row, i);
            if (unit == q) {
                over = !over;
            } else if (!sign(told, text.charAt((over ? 10 : 2) + unit), i)) {
                return;
            }
        }
        told.left = over ? "over" : "";
    }

    private static int pointsOf(String text, int sorts) {
        return text.charAt(text.length() - 4 + sorts) - '0';
    }

    private static final String[] TWO = {"aa", "ab", "ba", "bb"};

    static int weight(String text, Told told) {
        int weight = 0;
        for (int sorts = 0; sorts < 4; sorts++) {
            weight += told.pairs(TWO[sorts]) * pointsOf(text, sorts);
        }
        return weight;
    }

    int letter(int code) {
        if (code < 32 || code > 126) {
            return OUTSIDE;
        }
        if (page.length() == 40) {
            return FULL;
        }
        page += (char) code;
        return page.length();
    }

    int blank() {
        int had = page.length();
        page = "";
        return had;
    }

    int fault() {
        for (int end = 1; end <= page.length(); end++) {
            Matcher matcher = TEXT.matcher(page.substring(0, end));
            if (!matcher.matches() && !matcher.hitEnd()) {
                return end - 1;
            }
        }
        return page.length();
    }

    int code() {
        if (!TEXT.matcher(page).matches()) {
            return STATE;
        }
        if (codes.size() == 4) {
            return FULL;
        }
        codes.add(page);
        codesEver++;
        page = "";
        return codes.size() - 1;
    }

    int drop() {
        if (codes.isEmpty()) {
            return STATE;
        }
        codes.remove(codes.size() - 1);
        return codes.size();
    }

    private boolean known(int code) {
        return code >= 0 && code < codes.size();
    }

    int ink(int code, int place) {
        if (!known(code) || place < 0 || place >= codes.get(code).length()) {
            return UNKNOWN;
        }
        return codes.get(code).charAt(place);
    }

    int open(int newLength) {
        if (newLength < 1 || newLength > 40) {
            return OUTSIDE;
        }
        int had = stream.length();
        length = newLength;
        stream = "";
        return had;
    }

    int feed(int unit) {
        if (unit < 0 || unit > 7) {
            return OUTSIDE;
        }
        if (stream.length() == length) {
            return FULL;
        }
        stream += unit;
        unitsEver++;
        return stream.length();
    }

    int feeds() {
        if (!page.matches("[0-7]*")) {
            return STATE;
        }
        if (stream.length() + page.length() > length) {
            return FULL;
        }
        stream += page;
        unitsEver += page.length();
        page = "";
        return stream.length();
    }

    int back() {
        if (stream.isEmpty()) {
            return STATE;
        }
        stream = stream.substring(0, stream.length() - 1);
        return stream.length();
    }

    int unit(int place) {
        return place < 0 || place >= stream.length() ? UNKNOWN : unit(stream, place);
    }

    private Told told(int code) {
        return read(codes.get(code), stream);
    }

    int about(int code, int what) {
        if (!known(code)) {
            return UNKNOWN;
        }
        Told told = told(code);
        switch (what) {
            case 0: return "fpct".indexOf(codes.get(code).charAt(0));
            case 1: return told.bad == NONE ? 1 : 0;
            case 2: return told.valid() ? 1 : 0;
            case 3: return told.sorts.length();
            case 4: return weight(codes.get(code), told);
            case 5: return told.bad;
            case 6: return firstSure(code);
            case 7: return ranking().indexOf(code);
            default: return OUTSIDE;
        }
    }

    int points(int code, int sorts) {
        return !known(code) ? UNKNOWN : sorts < 0 || sorts > 3 ? OUTSIDE : pointsOf(codes.get(code), sorts);
    }

    int pairs(int code, int sorts) {
        return !known(code) ? UNKNOWN : sorts < 0 || sorts > 3 ? OUTSIDE : told(code).pairs(TWO[sorts]);
    }

    private int judgedOf(String row) {
        int best = NONE;
        int most = -1;
        for (int code = 0; code < codes.size(); code++) {
            Told told = read(codes.get(code), row);
            if (told.valid() && weight(codes.get(code), told) > most) {
                best = code;
                most = weight(codes.get(code), told);
            }
        }
        return best;
    }

    int judged() {
        return judgedOf(stream);
    }

    private List<Integer> ranking() {
        List<Integer> order = new ArrayList<>();
        for (int code = 0; code < codes.size(); code++) {
            order.add(code);
        }
        // the sort is stable, so lower numbers stay in front
        order.sort((one, other) -> Integer.compare(standing(other), standing(one)));
        return order;
    }

    private int standing(int code) {
        Told told = told(code);
        int group = told.valid() ? 2 : told.bad == NONE ? 1 : 0;
        return group * 10_000 + weight(codes.get(code), told);
    }

    int rank(int place) {
        return place < 0 || place >= codes.size() ? UNKNOWN : ranking().get(place);
    }

    private int firstSure(int code) {
        Foresight foresight = new Foresight(codes);
        for (int n = 0; n <= stream.length(); n++) {
            boolean sure = foresight.isSure(code, stream.substring(0, n), length - n);
            List<String> rows = fewRows(n);
            if (rows != null && isSureAmong(code, rows) != sure) {
                throw new IllegalStateException("Foresight tells otherwise: " + codes + " " + code + " " + stream + " " + n);
            }
            if (sure) {
                return n;
            }
        }
        return NONE;
    }

    /** The rows that begin with the first n units, one of each that matters; null if there are too many. */
    private List<String> fewRows(int n) {
        if (length - n > MOST_UNITS_TRIED) {
            return null;
        }
        Map<String, String> rows = new HashMap<>();
        rows.put("", stream.substring(0, n));
        for (int more = n; more < length; more++) {
            Map<String, String> longer = new HashMap<>();
            for (String row : rows.values()) {
                for (int unit = 0; unit < 8; unit++) {
                    longer.putIfAbsent(whatMatters(row + unit), row + unit);
                }
            }
            rows = longer;
            if (rows.size() > MOST_ROWS_TRIED) {
                return null;
            }
        }
        return new ArrayList<>(rows.values());
    }

    private boolean isSureAmong(int code, List<String> rows) {
        boolean some = false;
        for (String row : rows) {
            if (read(codes.get(code), row).valid()) {
                some = true;
                if (judgedOf(row) != code) {
                    return false;
                }
            }
        }
        return some;
    }

    private String whatMatters(String row) {
        StringBuilder all = new StringBuilder();
        for (String text : codes) {
            Told told = read(text, row);
            if (told.bad == NONE) {
                String last = told.sorts.isEmpty() ? "" : told.sorts.substring(told.sorts.length() - 1);
                all.append(told.left).append(',').append(last).append(',').append(weight(text, told));
            }
            all.append(';');
        }
        return all.toString();
    }

    int rows(int code, int n) {
        if (!known(code)) {
            return UNKNOWN;
        }
        if (n < 0 || n > 9) {
            return OUTSIDE;
        }
        return n <= 3 ? triedRows(codes.get(code), "", n) : reckonedRows(codes.get(code), n);
    }

    private static int triedRows(String text, String row, int more) {
        if (more == 0) {
            return read(text, row).valid() ? 1 : 0;
        }
        int found = 0;
        for (int unit = 0; unit < 8; unit++) {
            found += triedRows(text, row + unit, more - 1);
        }
        return found;
    }

    private static int among(String marks, String wanted) {
        return (int) marks.chars().filter(mark -> wanted.indexOf(mark) >= 0).count();
    }

    /** By how a row may end: with a sign of one, two or three units; a turned code by where it stands. */
    private static int reckonedRows(String text, int n) {
        if (text.charAt(0) == 't') {
            return reckonedTurnedRows(text, n);
        }
        int one;
        int two = 0;
        int three = 0;
        if (text.charAt(0) == 'f') {
            one = among(text.substring(1, 9), "ab");
        } else if (text.charAt(0) == 'p') {
            int q = text.charAt(1) - '0';
            one = among(text.substring(2, 2 + q), "ab");
            two = (8 - q) * among(text.substring(2, 10), "ab");
        } else {
            String marks = text.substring(1, 9);
            int plus = among(marks, "+");
            one = among(marks, "ab");
            two = among(marks, "cd") * plus;
            three = among(marks, "ef") * plus * plus;
        }
        int[] rows = new int[n + 1];
        rows[0] = 1;
        for (int i = 1; i <= n; i++) {
            rows[i] = one * rows[i - 1] + (i > 1 ? two * rows[i - 2] : 0) + (i > 2 ? three * rows[i - 3] : 0);
        }
        return rows[n];
    }

    private static int reckonedTurnedRows(String text, int n) {
        int q = text.charAt(1) - '0';
        int here = among(text.substring(2, 10), "ab") - (text.charAt(2 + q) == '!' ? 0 : 1);
        int there = among(text.substring(10, 18), "ab") - (text.charAt(10 + q) == '!' ? 0 : 1);
        int straight = 1;
        int over = 0;
        for (int i = 0; i < n; i++) {
            int nextStraight = straight * here + over;
            over = over * there + straight;
            straight = nextStraight;
        }
        return straight;
    }

    /** The row of apart(), or null. */
    private String partingRow(int one, int other) {
        // the map's values stand in lexicographic order: rows are tried in it, and the first of a kind stays
        Map<String, String> rows = new LinkedHashMap<>();
        rows.put("", "");
        for (int size = 0; size <= 40; size++) {
            for (String row : rows.values()) {
                if (read(codes.get(one), row).valid() && !read(codes.get(other), row).valid()) {
                    return row;
                }
            }
            Map<String, String> longer = new LinkedHashMap<>();
            for (String row : rows.values()) {
                for (int unit = 0; unit < 8; unit++) {
                    Told first = read(codes.get(one), row + unit);
                    Told second = read(codes.get(other), row + unit);
                    if (first.bad == NONE) {
                        String kind = first.left + ";" + (second.bad == NONE ? second.left : "bad");
                        longer.putIfAbsent(kind, row + unit);
                    }
                }
            }
            rows = longer;
        }
        return null;
    }

    int apart(int one, int other) {
        if (!known(one) || !known(other)) {
            return UNKNOWN;
        }
        String row = partingRow(one, other);
        return row == null ? NONE : row.length();
    }

    int tells(int one, int other, int place) {
        String row = known(one) && known(other) ? partingRow(one, other) : null;
        return row == null || place < 0 || place >= row.length() ? UNKNOWN : unit(row, place);
    }

    /** Pieces as {end, code, weight}. */
    private static final class Cut {
        final List<int[]> pieces = new ArrayList<>();

        int worth() {
            int worth = 0;
            for (int[] piece : pieces) {
                worth += piece[2];
            }
            return worth - 7 * Math.max(0, pieces.size() - 1);
        }

        boolean betterThan(Cut other) {
            if (worth() != other.worth()) {
                return worth() > other.worth();
            }
            if (pieces.size() != other.pieces.size()) {
                return pieces.size() < other.pieces.size();
            }
            for (int i = 0; i < pieces.size(); i++) {
                for (int what = 0; what < 2; what++) {
                    if (pieces.get(i)[what] != other.pieces.get(i)[what]) {
                        return pieces.get(i)[what] < other.pieces.get(i)[what];
                    }
                }
            }
            return false;
        }
    }

    /** The best division of each beginning of the stream, from all pieces that may come last; null if there is none. */
    private Cut bestCut() {
        Map<Integer, Cut> best = new TreeMap<>();
        best.put(0, new Cut());
        for (int end = 1; end <= stream.length(); end++) {
            for (int begin = 0; begin < end; begin++) {
                for (int code = 0; code < codes.size() && best.containsKey(begin); code++) {
                    Told told = read(codes.get(code), stream.substring(begin, end));
                    if (told.valid()) {
                        Cut cut = new Cut();
                        cut.pieces.addAll(best.get(begin).pieces);
                        cut.pieces.add(new int[] {end, code, weight(codes.get(code), told)});
                        if (!best.containsKey(end) || cut.betterThan(best.get(end))) {
                            best.put(end, cut);
                        }
                    }
                }
            }
        }
        return best.get(stream.length());
    }

    int cuts(int what) {
        if (what != 0 && what != 1) {
            return OUTSIDE;
        }
        Cut cut = bestCut();
        return cut == null ? STATE : what == 0 ? cut.worth() : cut.pieces.size();
    }

    int piece(int piece, int what) {
        Cut cut = bestCut();
        if (cut == null || piece < 0 || piece >= cut.pieces.size()) {
            return UNKNOWN;
        }
        return what < 0 || what > 2 ? OUTSIDE : cut.pieces.get(piece)[what];
    }

    int count(int what) {
        int alive = 0;
        int valid = 0;
        for (int code = 0; code < codes.size(); code++) {
            alive += about(code, 1);
            valid += about(code, 2);
        }
        int[] counts = {codes.size(), stream.length(), length, alive, valid, page.length(), codesEver, unitsEver};
        return what < 0 || what > 7 ? OUTSIDE : counts[what];
    }

    long digest() {
        List<Integer> list = new ArrayList<>();
        for (int code = 0; code < codes.size(); code++) {
            codes.get(code).chars().forEach(list::add);
            for (int what = 0; what <= 7; what++) {
                list.add(about(code, what));
            }
            for (int sorts = 0; sorts <= 3; sorts++) {
                list.add(pairs(code, sorts));
            }
            list.add(rows(code, 5));
            for (int other = 0; other < codes.size(); other++) {
                list.add(apart(code, other));
            }
        }
        stream.chars().forEach(digit -> list.add(digit - '0'));
        list.add(judged());
        Cut cut = bestCut();
        if (cut != null) {
            list.add(cut.worth());
            list.add(cut.pieces.size());
            cut.pieces.forEach(piece -> {
                list.add(piece[0]);
                list.add(piece[1]);
                list.add(piece[2]);
            });
        }
        page.chars().forEach(list::add);
        for (int what = 0; what <= 7; what++) {
            list.add(count(what));
        }
        long h = 1511;
        for (int v : list) {
            h = 31 * h + v;
        }
        return h;
    }

    long answer(String method, int... n) {
        switch (method) {
            case "letter": return letter(n[0]);
            case "blank": return blank();
            case "fault": return fault();
            case "code": return code();
            case "drop": return drop();
            case "ink": return ink(n[0], n[1]);
            case "open": return open(n[0]);
            case "feed": return feed(n[0]);
            case "feeds": return feeds();
            case "back": return back();
            case "unit": return unit(n[0]);
            case "about": return about(n[0], n[1]);
            case "points": return points(n[0], n[1]);
            case "pairs": return pairs(n[0], n[1]);
            case "judged": return judged();
            case "rank": return rank(n[0]);
            case "rows": return rows(n[0], n[1]);
            case "apart": return apart(n[0], n[1]);
            case "tells": return tells(n[0], n[1], n[2]);
            case "cuts": return cuts(n[0]);
            case "piece": return piece(n[0], n[1]);
            case "count": return count(n[0]);
            case "digest": return digest();
            default: throw new IllegalArgumentException(method);
        }
    }
}
