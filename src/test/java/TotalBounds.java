/** The sentences of promises 21 to 24: pieces, totals, and the digest. */
final class TotalBounds {
    private static final String FLAT = "load faaaabbbb1234; ";
    private static final String FOUR = FLAT + "load p4ab!bab!b5678; load cabcdef+!9876; load t7aabb!!aabbbbaaab9009; ";
    private static final String LEFT_RIGHT = "load faaaa!!!!9000; load f!!!!aaaa5000; ";
    private static final String NOTHING = "load f!!!!!!!!0000; ";

    private final Bounds bounds;

    TotalBounds(Bounds bounds) {
        this.bounds = bounds;
    }

    void all() {
        cuts();
        piece();
        count();
        digestOfCodes();
        digestOfTheRest();
    }

    private void cuts() {
        bounds.section("Promise 21");
        bounds.says("Returns a property of the best division. what: 0: its worth; "
            + "1: the number of its pieces Returns the property;",
            "cuts(*) = 0 0 OUTSIDE", LEFT_RIGHT + "cuts(*) = 0 0; feed(0) = 1; cuts(*) = 0 1; feed(0) = 2; cuts(*) = 9 1; "
            + "feed(4) = 3; cuts(*) = 2 2; feed(4) = 4; cuts(*) = 7 2; "
            + "feed(0) = 5; cuts(*) = 0 3; back() = 4; cuts(*) = 7 2", LEFT_RIGHT + "units " + "04".repeat(20) + "; "
            + "cuts(*) = -273 40");
        bounds.says("OUTSIDE if what is out of range;", "cuts(-1) = OUTSIDE; cuts(2) = OUTSIDE; cuts(LEAST) = OUTSIDE; "
            + "cuts(MOST) = OUTSIDE", "feed(0) = 1; cuts(-1) = OUTSIDE; cuts(2) = OUTSIDE; "
            + "cuts(0) = STATE", FLAT + "units 00; cuts(2) = OUTSIDE; cuts(-1) = OUTSIDE; cuts(1) = 1");
        bounds.says("STATE if there is no division.", "feed(0) = 1; cuts(0) = STATE; cuts(1) = STATE; back() = 0; "
            + "cuts(0) = 0", NOTHING + "feed(0) = 1; cuts(0) = STATE; cuts(1) = STATE; " + FLAT
            + "cuts(0) = 0; cuts(1) = 1; drop() = 1; cuts(0) = STATE", "load p4aaaaaaaa0000; units 04; cuts(0) = STATE; "
            + "feed(4) = 3; cuts(0) = 0", LEFT_RIGHT + "units 04; cuts(0) = -7; drop() = 1; cuts(0) = STATE; "
            + "cuts(1) = STATE");
    }

    private void piece() {
        bounds.section("Promise 22");
        bounds.says("Returns a property of a piece of the best division. piece: the index of the piece, from 0 what: 0: the "
            + "index behind its last unit; 1: its code; 2: its weight Returns the property;",
            LEFT_RIGHT + "units 000440; cuts(1) = 3; piece(0, *) = 3 0 18 OUTSIDE; piece(1, *) = 5 1 5 OUTSIDE; "
            + "piece(2, *) = 6 0 0 OUTSIDE; piece(3, *) = UNKNOWN UNKNOWN UNKNOWN UNKNOWN",
            FLAT + "feed(0) = 1; piece(0, *) = 1 0 0; units " + "0".repeat(39) + "; piece(0, *) = 40 0 39; piece(1, 0) = UNKNOWN",
            LEFT_RIGHT + "units " + "04".repeat(20) + "; piece(0, *) = 1 0 0; piece(38, *) = 39 0 0; piece(39, *) = 40 1 0; "
            + "piece(40, 0) = UNKNOWN");
        bounds.says("UNKNOWN if there is no division, or it has no such piece;", "piece(0, 0) = UNKNOWN; "
            + "piece(0, 3) = UNKNOWN", "feed(0) = 1; piece(0, 0) = UNKNOWN; piece(0, 3) = UNKNOWN; piece(0, -1) = UNKNOWN",
            NOTHING + "feed(0) = 1; piece(0, 0) = UNKNOWN; piece(0, 3) = UNKNOWN", FLAT + "piece(0, 0) = UNKNOWN; feed(0) = 1; "
            + "piece(0, 0) = 1; piece(1, 0) = UNKNOWN; piece(-1, 0) = UNKNOWN; "
            + "piece(LEAST, 0) = UNKNOWN; piece(MOST, 0) = UNKNOWN; piece(1, 3) = UNKNOWN; piece(-1, -1) = UNKNOWN; "
            + "back() = 0; piece(0, 0) = UNKNOWN",
            LEFT_RIGHT + "units 04; piece(1, 0) = 2; piece(2, 0) = UNKNOWN; drop() = 1; piece(0, 0) = UNKNOWN");
        bounds.says("OUTSIDE if what is out of range.", FLAT + "feed(0) = 1; piece(0, *) = 1 0 0 OUTSIDE; "
            + "piece(0, -1) = OUTSIDE; piece(0, LEAST) = OUTSIDE; piece(0, MOST) = OUTSIDE",
            LEFT_RIGHT + "units 04; piece(1, *) = 2 1 0 OUTSIDE; piece(1, -1) = OUTSIDE");
    }

    private void count() {
        bounds.section("Promise 23");
        bounds.says("Returns a total. what: 0: codes;", "count(0) = 0; " + FOUR + "count(0) = 4; page x; code() = STATE; "
            + "count(0) = 4; drop() = 3; count(0) = 3");
        bounds.says("1: units that have come;", "count(1) = 0; feed(0) = 1; count(1) = 1; page 8; feeds() = STATE; "
            + "count(1) = 1; blank() = 1; units " + "0".repeat(39) + "; count(1) = 40; feed(0) = FULL; "
            + "count(1) = 40; back() = 39; count(1) = 39; open(40) = 39; count(1) = 0");
        bounds.says("2: the length of the stream;", "count(2) = 40; open(1) = 0; count(2) = 1; feed(0) = 1; count(2) = 1; "
            + "open(41) = OUTSIDE; count(2) = 1; open(40) = 1; count(2) = 40");
        bounds.says("3: codes that are alive;", "count(3) = 0; " + NOTHING + FLAT + "load p7aaaaaaaa0000; " + NOTHING
            + "count(3) = 4; feed(7) = 1; count(3) = 2; back() = 0; count(3) = 4; drop() = 3; count(3) = 3");
        bounds.says("4: codes that are valid;", "count(4) = 0; " + NOTHING + FLAT + "load p7aaaaaaaa0000; "
            + "load t7aaaaaaaaaaaaaaaa0000; count(4) = 4; feed(7) = 1; count(4) = 1; feed(7) = 2; count(4) = 3; "
            + "open(1) = 2; count(4) = 4");
        bounds.says("5: the length of the page;", "count(5) = 0; letter(97) = 1; count(5) = 1; letter(31) = OUTSIDE; "
            + "count(5) = 1; page " + "a".repeat(39) + "; count(5) = 40; letter(97) = FULL; count(5) = 40; "
            + "blank() = 40; count(5) = 0", FLAT + "count(5) = 0; units 01; count(5) = 0");
        bounds.says("6: how often code() has succeeded;", "count(6) = 0; code() = STATE; count(6) = 0; " + FOUR
            + "count(6) = 4; page faaaaaaaa0000; code() = FULL; count(6) = 4; drop() = 3; count(6) = 4; "
            + "code() = 3; count(6) = 5; drop() = 3; drop() = 2; drop() = 1; drop() = 0; count(6) = 5");
        bounds.says("7: how many units have ever come, those of feeds() and those taken back included",
            "count(7) = 0; feed(0) = 1; count(7) = 1; back() = 0; count(7) = 1; units 012; count(7) = 4; "
            + "feed(8) = OUTSIDE; count(7) = 4; open(1) = 3; count(7) = 4; feed(0) = 1; feed(0) = FULL; count(7) = 5; page 0; "
            + "feeds() = FULL; count(7) = 5; feeds() = FULL; blank() = 1; "
            + "feeds() = 1; count(7) = 5; open(40) = 1; units " + "0".repeat(40) + "; count(7) = 45; open(40) = 40; units "
            + "0".repeat(40) + "; count(7) = 85");
        bounds.says("Returns that number; OUTSIDE if what is not 0 to 7.", "count(*) = 0 0 40 0 0 0 0 0 OUTSIDE; "
            + "count(-1) = OUTSIDE; count(LEAST) = OUTSIDE; count(MOST) = OUTSIDE",
            FOUR + "count(8) = OUTSIDE; count(-1) = OUTSIDE");
    }

    /** The digest of the object behind the run is the one of its list; the page is what the run leaves typed. */
    private void listed(String run, String page) {
        String whole = page.isEmpty() ? run : run + "page " + page + "; ";
        CodeJudge judge = bounds.after(whole);
        long digest = judge.digest();
        bounds.due("digest() behind " + whole, digest, Listed.digest(bounds.after(whole), page));
        bounds.due("digest() again behind " + whole, judge.digest(), digest);
    }

    private void digestOfCodes() {
        bounds.section("Promise 24");
        bounds.says("Returns a hash of the state. h starts as 1511;",
            // NONE; 0 and 0 for no pieces; the totals
            "digest() = " + fold(1511, -1, 0, 0, 0, 0, 40, 0, 0, 0, 0, 0));
        bounds.says("for each value v of the following list, in this order, h becomes 31 * h + v (long arithmetic, with "
            + "overflow):",
            "page x; code() = STATE; feed(3) = 1; digest() = 1501255237244541744");
        CodeJudge judge = bounds.after(FOUR + "units 0404411; page page");
        bounds.holds("the list is too long for a long", Listed.whole(judge, "page").bitLength() > 500);
        bounds.due("digest()", judge.digest(), Listed.digest(judge, "page"));
        boolean below = false;
        boolean above = false;
        for (int unit = 0; unit < 8; unit++) {
            CodeJudge one = bounds.after(FOUR + "feed(" + unit + ") = 1");
            bounds.due("digest() with " + unit, one.digest(), Listed.digest(one, ""));
            below |= one.digest() < 0;
            above |= one.digest() > 0;
        }
        bounds.holds("digests below and above zero", below && above);
        bounds.says("for each code all characters of its text, as returned by ink(), the results of about() for what 0 to 7, "
            + "of pairs() for sorts 0 to 3, of rows() for n 5, and of apart() from it to each code,"
            + " itself included;", "load f!!!!!!!!0000; digest() = " + fold(fold(1511, 102, 33, 33, 33, 33, 33, 33, 33, 33,
            48, 48, 48, 48),
            0, 1, 1, 0, 0, -1, -1, 0, 0, 0, 0, 0, 0, -1, 0, 0, 0, 1, 0, 40, 1, 1, 0, 1, 0));
        listed(FLAT, "");
        listed(FOUR, "");
        listed(FOUR + "drop() = 3; ", "");
        listed(FOUR + "drop() = 3; drop() = 2; drop() = 1; drop() = 0; ", "");
        listed("load faaaaaaa!1000; load p7aaaaaaaa2000; load caaaaaabc3000; load faaaaaaaa4000; units 007; ", "");
        listed("load faaaabbbb9000; load fbbbbaaaa9000; open(4) = 0; units 0044; ", "");
    }

    private void digestOfTheRest() {
        bounds.says("the units that have come;");
        listed("feed(0) = 1; ", "");
        listed("units 01234567; ", "");
        listed(FLAT + "units " + "04".repeat(20) + "; ", "");
        bounds.says("the result of judged();");
        listed("load f!!!!!!!a1000; load faaaaaaaa1000; ", "");
        listed("load f!!!!!!!a1000; load faaaaaaaa1000; units 00; ", "");
        listed("load f!!!!!!!a1000; feed(0) = 1; ", "");
        bounds.says("if there is a division, cuts(0), cuts(1), and for each piece the results of piece() for what 0 to 2;",
            // no division, so nothing stands between the judged code and the totals
            "feed(3) = 1; digest() = " + fold(1511, 3, -1, 0, 1, 40, 0, 0, 0, 0, 1));
        listed(LEFT_RIGHT + "units 000440; ", "");
        listed(LEFT_RIGHT + "units " + "04".repeat(20) + "; ", "");
        listed(NOTHING + "units 00; ", "");
        bounds.says("the code of each character of the page;", "page ab; digest() = " + fold(1511, -1, 0, 0, 97, 98, 0, 0, 40,
            0, 0, 2, 0, 0));
        listed("", "x");
        listed(FOUR + "units 012; ", "z".repeat(40));
        bounds.says("the results of count() for what 0 to 7. Returns h.");
        listed("open(1) = 0; ", "");
        listed("units 00; open(3) = 2; ", "");
        listed(FLAT + "drop() = 0; ", "");
        listed("units 01; back() = 1; back() = 0; ", "");
    }

    private static long fold(long start, int... values) {
        long h = start;
        for (int value : values) {
            h = 31 * h + value;
        }
        return h;
    }
}
