/** Each refused call, with its error code, and with a look at what came of it: nothing. */
final class Refusals {
    private static final String FLAT = "faaaabbbb1234";
    private static final String TWO = "load " + FLAT + "; load p4ab!bab!b5678; open(5) = 0; units 041; page fa; ";
    private static final String FOUR = "load " + FLAT + "; load p4ab!bab!b5678; load cabcdef+!9876; "
            + "load t7aabb!!aabbbbaaab9009; units 04; ";
    private static final String FULL_STREAM = "load " + FLAT + "; open(3) = 0; units 041; page 70; ";
    private static final String FULL_PAGE = "load " + FLAT + "; units 041; page " + "7".repeat(40) + "; ";
    private static final String NO_DIVISION = "load faaaaaaa!1000; units 07; page 12; ";
    private static final String PIECES = "load faaaa!!!!9000; load f!!!!aaaa9000; units 0044; page 12; ";
    private static final String[] BEGINNINGS = {"", TWO, FOUR, FULL_STREAM, FULL_PAGE, NO_DIVISION, PIECES};

    private final Bounds bounds;

    Refusals(Bounds bounds) {
        this.bounds = bounds;
    }

    void all() {
        bounds.section("Description");
        codes();
        orders();
        none();
        bounds.says("A call that returns an error code changes nothing.");
        pageAndStream();
        codesAndRows();
        divisionAndTotals();
    }

    private void codes() {
        bounds.says("UNKNOWN (-101): there is no such code, place or piece.", "ink(0, 0) = -101; unit(0) = -101; "
            + "piece(0, 0) = -101; rank(0) = -101");
        bounds.due("UNKNOWN", CodeJudge.UNKNOWN, -101);
        bounds.says("OUTSIDE (-102): another argument is out of its range.", "feed(8) = -102; open(0) = -102; "
            + "letter(31) = -102; count(8) = -102; cuts(2) = -102");
        bounds.due("OUTSIDE", CodeJudge.OUTSIDE, -102);
        bounds.says("STATE (-103): the call is not possible, as told there.", "code() = -103; drop() = -103; back() = -103; "
            + "page x; feeds() = -103; feed(0) = 1; cuts(0) = -103");
        bounds.due("STATE", CodeJudge.STATE, -103);
        bounds.says("FULL (-104): there is no room.", "page " + "0".repeat(40) + "; letter(48) = -104; feeds() = 40; "
            + "feed(0) = -104; page 0; feeds() = -104",
            FOUR + "page " + FLAT + "; code() = -104");
        bounds.due("FULL", CodeJudge.FULL, -104);
    }

    /** Where two errors of a method apply at once, the one that is listed first is returned. */
    private void orders() {
        bounds.says("Each method lists its error codes in the order in which they are checked, and returns the first one that "
            + "applies.",
            FULL_PAGE + "letter(48) = FULL; letter(31) = OUTSIDE; letter(127) = OUTSIDE",
            FOUR + "code() = STATE; page " + FLAT + "; code() = FULL; letter(48) = 14; code() = STATE",
            FULL_STREAM + "feed(7) = FULL; feed(8) = OUTSIDE; feed(-1) = OUTSIDE",
            FULL_STREAM + "feeds() = FULL; letter(56) = 3; feeds() = STATE; blank() = 3; letter(56) = 1; feeds() = STATE",
            TWO + "about(2, 0) = UNKNOWN; about(0, 8) = OUTSIDE; about(2, 8) = UNKNOWN; about(-1, -1) = UNKNOWN",
            TWO + "points(2, 0) = UNKNOWN; points(0, 4) = OUTSIDE; points(2, 4) = UNKNOWN; points(-1, -1) = UNKNOWN",
            TWO + "pairs(2, 0) = UNKNOWN; pairs(0, 4) = OUTSIDE; pairs(2, 4) = UNKNOWN; pairs(-1, -1) = UNKNOWN",
            TWO + "rows(2, 0) = UNKNOWN; rows(0, 10) = OUTSIDE; rows(2, 10) = UNKNOWN; rows(-1, -1) = UNKNOWN",
            NO_DIVISION + "cuts(0) = STATE; cuts(2) = OUTSIDE; cuts(-1) = OUTSIDE",
            NO_DIVISION + "piece(0, 0) = UNKNOWN; piece(0, 3) = UNKNOWN", PIECES + "piece(2, 0) = UNKNOWN; "
            + "piece(1, 3) = OUTSIDE; piece(2, 3) = UNKNOWN; piece(-1, -1) = UNKNOWN",
            "piece(0, 3) = UNKNOWN");
    }

    private void none() {
        bounds.says("NONE (-1) is not an error; it is returned only if no error applies.", "judged() = -1",
            TWO + "about(0, 5) = -1; about(2, 5) = UNKNOWN; about(0, 6) = -1; about(2, 6) = UNKNOWN; apart(0, 0) = -1; "
            + "apart(0, 2) = UNKNOWN; apart(2, 0) = UNKNOWN; apart(2, 2) = UNKNOWN");
        bounds.due("NONE", CodeJudge.NONE, -1);
    }

    private void pageAndStream() {
        for (String begin : BEGINNINGS) {
            refused(begin, CodeJudge.OUTSIDE, "letter", 31);
            refused(begin, CodeJudge.OUTSIDE, "letter", 127);
            refused(begin, CodeJudge.STATE, "code");
            refused(begin, CodeJudge.OUTSIDE, "open", 0);
            refused(begin, CodeJudge.OUTSIDE, "open", 41);
            refused(begin, CodeJudge.OUTSIDE, "feed", -1);
            refused(begin, CodeJudge.OUTSIDE, "feed", 8);
            refused(begin, CodeJudge.UNKNOWN, "unit", -1);
            refused(begin, CodeJudge.UNKNOWN, "unit", 40);
        }
        refused(FULL_PAGE, CodeJudge.FULL, "letter", 32);
        refused(FULL_PAGE, CodeJudge.FULL, "letter", 126);
        refused(FOUR + "page " + FLAT + "; ", CodeJudge.FULL, "code");
        refused(FOUR + "page f; ", CodeJudge.STATE, "code");
        refused("units 01; page 2; ", CodeJudge.STATE, "drop");
        refused("load " + FLAT + "; drop() = 0; units 01; page 2; ", CodeJudge.STATE, "drop");
        refused(FULL_STREAM, CodeJudge.FULL, "feed", 0);
        refused(FULL_STREAM, CodeJudge.FULL, "feed", 7);
        refused(FULL_STREAM, CodeJudge.FULL, "feeds");
        refused("open(3) = 0; feed(1) = 1; page 123; ", CodeJudge.FULL, "feeds");
        refused(TWO, CodeJudge.STATE, "feeds");
        refused("load " + FLAT + "; feed(1) = 1; page 128; ", CodeJudge.STATE, "feeds");
        refused("load " + FLAT + "; page 12; ", CodeJudge.STATE, "back");
        refused("load " + FLAT + "; units 01; open(9) = 2; page 12; ", CodeJudge.STATE, "back");
        refused(TWO, CodeJudge.UNKNOWN, "unit", 3);
    }

    private void codesAndRows() {
        for (String begin : BEGINNINGS) {
            for (int code : new int[] {-1, 4, Integer.MIN_VALUE, Integer.MAX_VALUE}) {
                refused(begin, CodeJudge.UNKNOWN, "ink", code, 0);
                for (String call : new String[] {"about", "points", "pairs", "rows"}) {
                    refused(begin, CodeJudge.UNKNOWN, call, code, 0);
                    refused(begin, CodeJudge.UNKNOWN, call, code, 99);
                }
                refused(begin, CodeJudge.UNKNOWN, "rank", code);
                refused(begin, CodeJudge.UNKNOWN, "apart", code, 0);
                refused(begin, CodeJudge.UNKNOWN, "apart", 0, code);
                refused(begin, CodeJudge.UNKNOWN, "tells", code, 0, 0);
                refused(begin, CodeJudge.UNKNOWN, "tells", 0, code, 0);
            }
        }
        refused(TWO, CodeJudge.UNKNOWN, "ink", 0, 13);
        refused(TWO, CodeJudge.UNKNOWN, "ink", 0, -1);
        for (int wrong : new int[] {-1, 10}) {
            refused(TWO, CodeJudge.OUTSIDE, "about", 0, wrong);
            refused(TWO, CodeJudge.OUTSIDE, "points", 0, wrong);
            refused(TWO, CodeJudge.OUTSIDE, "pairs", 0, wrong);
            refused(TWO, CodeJudge.OUTSIDE, "rows", 0, wrong);
        }
        refused(TWO, CodeJudge.UNKNOWN, "tells", 0, 0, 0);
        refused(TWO, CodeJudge.UNKNOWN, "tells", 0, 1, 1);
        refused(TWO, CodeJudge.UNKNOWN, "tells", 0, 1, -1);
    }

    private void divisionAndTotals() {
        for (String begin : BEGINNINGS) {
            refused(begin, CodeJudge.OUTSIDE, "cuts", -1);
            refused(begin, CodeJudge.OUTSIDE, "cuts", 2);
            refused(begin, CodeJudge.UNKNOWN, "piece", -1, 0);
            refused(begin, CodeJudge.UNKNOWN, "piece", 40, 3);
            refused(begin, CodeJudge.OUTSIDE, "count", -1);
            refused(begin, CodeJudge.OUTSIDE, "count", 8);
        }
        refused(NO_DIVISION, CodeJudge.STATE, "cuts", 0);
        refused(NO_DIVISION, CodeJudge.STATE, "cuts", 1);
        refused(NO_DIVISION, CodeJudge.UNKNOWN, "piece", 0, 0);
        refused(PIECES, CodeJudge.UNKNOWN, "piece", 2, 0);
        refused(PIECES, CodeJudge.OUTSIDE, "piece", 0, 3);
        refused(PIECES, CodeJudge.OUTSIDE, "piece", 1, -1);
    }

    /** A twin does without the refused call; then both must answer alike, whatever comes. */
    private void refused(String begin, int error, String method, int... numbers) {
        CodeJudge judge = bounds.after(begin);
        CodeJudge twin = bounds.after(begin);
        String told = Script.told(method, numbers);
        bounds.due(told + " behind " + begin, Calls.answer(judge, method, numbers), error);
        same(told, judge, twin, "digest");
        for (int what = 0; what < 8; what++) {
            same(told, judge, twin, "count", what);
        }
        for (String later : new String[] {"fault", "judged", "feeds", "code", "back", "drop", "blank"}) {
            same(told, judge, twin, later);
            same(told, judge, twin, "digest");
        }
        for (int unit = 0; unit < 8; unit += 7) {
            same(told, judge, twin, "feed", unit);
            same(told, judge, twin, "letter", 48 + unit);
            same(told, judge, twin, "digest");
        }
        same(told, judge, twin, "open", 7);
        same(told, judge, twin, "digest");
    }

    private void same(String refused, CodeJudge judge, CodeJudge twin, String method, int... numbers) {
        bounds.due(Script.told(method, numbers) + " behind the refused " + refused, Calls.answer(judge, method, numbers),
            Calls.answer(twin, method, numbers));
    }
}
