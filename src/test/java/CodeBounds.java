/** The sentences of promises 13 to 20: what codes make of the stream, and what they are like. */
final class CodeBounds {
    private static final String FLAT = "load faaaabbbb1234; ";
    private static final String PAIRED = "load p4ab!bab!b5678; ";
    private static final String COUNTED = "load cabcdef+!9876; ";
    private static final String TURNED = "load t7aabb!!aabbbbaaab9009; ";
    private static final String FOUR = FLAT + PAIRED + COUNTED + TURNED;
    private static final String ALL = "load faaaaaaaa0000; ";
    private static final String NOTHING = "load f!!!!!!!!0000; ";
    private static final String BUT_SEVEN = "load faaaaaaa!1000; ";

    private final Bounds bounds;

    CodeBounds(Bounds bounds) {
        this.bounds = bounds;
    }

    void all() {
        about();
        aboutErrors();
        points();
        pairs();
        judged();
        rank();
        rows();
        apart();
        tells();
    }

    private void about() {
        bounds.section("Promise 13");
        bounds.says("Returns a property of a code. code: the code what: 0: its kind;", FOUR + "about(*, 0) = 0 1 2 3 UNKNOWN; "
            + "units 77; about(*, 0) = 0 1 2 3 UNKNOWN");
        bounds.says("1: 1 if it is alive, 0 if not;", BUT_SEVEN + "about(0, 1) = 1; feed(6) = 1; about(0, 1) = 1; feed(7) = 2; "
            + "about(0, 1) = 0; feed(6) = 3; about(0, 1) = 0",
            PAIRED + "feed(6) = 1; about(0, 1) = 1");
        bounds.says("2: 1 if it is valid, 0 if not;", BUT_SEVEN + "about(0, 2) = 1; feed(6) = 1; about(0, 2) = 1; feed(7) = 2; "
            + "about(0, 2) = 0; feed(6) = 3; about(0, 2) = 0",
            PAIRED + "feed(6) = 1; about(0, 2) = 0; feed(0) = 2; about(0, 2) = 1", TURNED + "feed(7) = 1; about(0, 2) = 0; "
            + "feed(7) = 2; about(0, 2) = 1");
        bounds.says("3: the number of its signs;", ALL + "about(0, 3) = 0; feed(0) = 1; about(0, 3) = 1; units "
            + "0".repeat(39) + "; about(0, 3) = 40",
            PAIRED + "feed(6) = 1; about(0, 3) = 0; feed(0) = 2; about(0, 3) = 1", TURNED + "units 77; about(0, 3) = 0; "
            + "feed(0) = 3; about(0, 3) = 1",
            BUT_SEVEN + "units 0070; about(0, 3) = 2");
        bounds.says("4: its weight;", FLAT + "about(0, 4) = 0; feed(0) = 1; about(0, 4) = 0; feed(0) = 2; about(0, 4) = 1; "
            + "feed(4) = 3; about(0, 4) = 3; feed(4) = 4; "
            + "about(0, 4) = 7; feed(0) = 5; about(0, 4) = 10", "load fbbbbbbbb0009; units " + "0".repeat(40) + "; "
            + "about(0, 4) = 351", BUT_SEVEN + "units 00700; about(0, 4) = 1");
        bounds.says("5: the index of the first unit that is not allowed (NONE if it is alive);",
            BUT_SEVEN + "about(0, 5) = NONE; feed(7) = 1; about(0, 5) = 0; feed(7) = 2; about(0, 5) = 0",
            BUT_SEVEN + "units 0770; about(0, 5) = 1", BUT_SEVEN + "units " + "0".repeat(39) + "; about(0, 5) = NONE; "
            + "feed(7) = 40; about(0, 5) = 39; back() = 39; about(0, 5) = NONE",
            PAIRED + "feed(7) = 1; about(0, 5) = NONE; feed(6) = 2; about(0, 5) = 1");
        bounds.says("6: the smallest N at which it is sure (NONE if there is none);", ALL + "about(0, 6) = 0; units "
            + "0".repeat(40) + "; about(0, 6) = 0",
            NOTHING + "about(0, 6) = NONE; feed(0) = 1; about(0, 6) = NONE", BUT_SEVEN + "load f!!!!!!!a9000; open(3) = 0; "
            + "about(0, 6) = 0; about(1, 6) = 0; units 70; about(0, 6) = 0; about(1, 6) = 0",
            ALL + "load faaaaaaa!9000; open(4) = 0; units 00; about(0, 6) = NONE; feed(7) = 3; about(0, 6) = 3; "
            + "about(1, 6) = 0; feed(0) = 4; about(0, 6) = 3; back() = 3; back() = 2; about(0, 6) = NONE");
        bounds.says("7: its index in the ranking, from 0", ALL + "about(0, 7) = 0", ALL + ALL + ALL + ALL
            + "about(*, 7) = 0 1 2 3 UNKNOWN",
            BUT_SEVEN + "load p7aaaaaaaa0000; " + ALL + "load faaaaaaaa1000; units 007; about(*, 7) = 3 2 1 0 UNKNOWN; "
            + "drop() = 3; about(*, 7) = 2 1 0 UNKNOWN");
    }

    private void aboutErrors() {
        String[] whats = {"0", "1", "2", "3", "4", "5", "6", "7", "8", "-1"};
        bounds.says("Returns the property; UNKNOWN if there is no such code;");
        for (String what : whats) {
            bounds.run("about(0, " + what + ") = UNKNOWN; " + FLAT + PAIRED + "about(2, " + what + ") = UNKNOWN; about(-1, "
            + what + ") = UNKNOWN; about(LEAST, " + what
                + ") = UNKNOWN; about(MOST, " + what + ") = UNKNOWN; drop() = 1; about(1, " + what + ") = UNKNOWN");
        }
        bounds.says("OUTSIDE if what is not 0 to 7.", FLAT + "about(0, *) = 0 1 1 0 0 NONE 0 0 OUTSIDE OUTSIDE; "
            + "about(0, -1) = OUTSIDE; about(0, LEAST) = OUTSIDE; "
            + "about(0, MOST) = OUTSIDE; about(1, 8) = UNKNOWN; about(1, -1) = UNKNOWN");
    }

    private void points() {
        bounds.section("Promise 14");
        bounds.says("Returns points of a code. code: the code sorts: 0: A followed by A; 1: A followed by B; "
            + "2: B followed by A; 3: B followed by B Returns the points;",
            FOUR + "points(0, *) = 1 2 3 4; points(1, *) = 5 6 7 8; points(2, *) = 9 8 7 6; points(3, *) = 9 0 0 9",
            "load faaaaaaaa0909; points(0, *) = 0 9 0 9 OUTSIDE");
        bounds.says("UNKNOWN if there is no such code;", "points(0, 0) = UNKNOWN; points(0, 4) = UNKNOWN",
            FLAT + "points(1, 0) = UNKNOWN; points(-1, 3) = UNKNOWN; "
            + "points(LEAST, 0) = UNKNOWN; points(MOST, 0) = UNKNOWN; points(1, 4) = UNKNOWN; points(-1, -1) = UNKNOWN; "
            + "drop() = 0; points(0, 0) = UNKNOWN");
        bounds.says("OUTSIDE if sorts is not 0 to 3.", FLAT + "points(0, *) = 1 2 3 4 OUTSIDE; points(0, -1) = OUTSIDE; "
            + "points(0, LEAST) = OUTSIDE; points(0, MOST) = OUTSIDE");
    }

    private void pairs() {
        bounds.section("Promise 15");
        bounds.says("Counts how often two signs of given sorts directly followed each other (before the first unit that is not "
            + "allowed). code: the code sorts: the sorts, as for points()"
            + " Returns the number;", FLAT + "pairs(0, *) = 0 0 0 0 OUTSIDE; feed(0) = 1; pairs(0, *) = 0 0 0 0; feed(0) = 2; "
            + "pairs(0, *) = 1 0 0 0; feed(4) = 3; pairs(0, *) = 1 1 0 0; "
            + "feed(4) = 4; pairs(0, *) = 1 1 0 1; feed(0) = 5; pairs(0, *) = 1 1 1 1", FLAT + "units " + "0".repeat(40) + "; "
            + "pairs(0, *) = 39 0 0 0",
            FLAT + "units " + "04".repeat(20) + "; pairs(0, *) = 0 20 19 0", "load faaaa!bbb1234; units 00550; "
            + "pairs(0, *) = 1 1 1 1; feed(4) = 6; pairs(0, *) = 1 1 1 1; units 00; pairs(0, *) = 1 1 1 1",
            "load faaaa!bbb1234; units 40000; pairs(0, *) = 0 0 0 0", COUNTED + "units 012; pairs(0, *) = 0 1 0 0; "
            + "feed(6) = 4; pairs(0, *) = 0 1 1 0",
            TURNED + "units 0770; pairs(0, *) = 1 0 0 0");
        bounds.says("UNKNOWN if there is no such code;", "pairs(0, 0) = UNKNOWN; pairs(0, 4) = UNKNOWN",
            FLAT + "pairs(1, 0) = UNKNOWN; pairs(-1, 3) = UNKNOWN; "
            + "pairs(LEAST, 0) = UNKNOWN; pairs(MOST, 0) = UNKNOWN; pairs(1, 4) = UNKNOWN; pairs(-1, -1) = UNKNOWN; "
            + "drop() = 0; pairs(0, 0) = UNKNOWN");
        bounds.says("OUTSIDE if sorts is not 0 to 3.", FLAT + "pairs(0, *) = 0 0 0 0 OUTSIDE; pairs(0, -1) = OUTSIDE; "
            + "pairs(0, LEAST) = OUTSIDE; pairs(0, MOST) = OUTSIDE");
    }

    private void judged() {
        bounds.section("Promise 16");
        bounds.says("Returns the judged code. Returns the code;", ALL + "judged() = 0", NOTHING + NOTHING + NOTHING + ALL
            + "judged() = 0; feed(0) = 1; judged() = 3; back() = 0; judged() = 0",
            ALL + "load faaaaaaaa9000; units 00; judged() = 1; drop() = 1; judged() = 0");
        bounds.says("NONE if there is none.", "judged() = NONE", NOTHING + "feed(0) = 1; judged() = NONE",
            PAIRED + "feed(4) = 1; judged() = NONE; feed(0) = 2; judged() = 0",
            TURNED + "feed(7) = 1; judged() = NONE; feed(7) = 2; judged() = 0");
    }

    private void rank() {
        bounds.section("Promise 17");
        bounds.says("Returns a code of the ranking. place: the index in the ranking, from 0 Returns the code;",
            ALL + "rank(0) = 0",
            BUT_SEVEN + "load p7aaaaaaaa0000; " + ALL + "load faaaaaaaa1000; units 007; rank(*) = 3 2 1 0 UNKNOWN",
            NOTHING + ALL + "rank(*) = 0 1 UNKNOWN; feed(0) = 1; rank(*) = 1 0 UNKNOWN");
        bounds.says("UNKNOWN if there is no such index.", "rank(0) = UNKNOWN; rank(-1) = UNKNOWN",
            ALL + "rank(0) = 0; rank(1) = UNKNOWN; rank(-1) = UNKNOWN; rank(LEAST) = UNKNOWN; "
            + "rank(MOST) = UNKNOWN; drop() = 0; rank(0) = UNKNOWN", ALL + ALL + ALL + ALL + "rank(3) = 3; rank(4) = UNKNOWN; "
            + "drop() = 3; rank(3) = UNKNOWN; rank(2) = 2");
    }

    private void rows() {
        bounds.section("Promise 18");
        bounds.says("Counts the rows of n units that are valid in a code. code: the code n: 0 to 9 Returns the number of rows;",
            ALL + "rows(0, *) = 1 8 64 512 4096 32768 262144 2097152 16777216 134217728 OUTSIDE",
            NOTHING + "rows(0, *) = 1 0 0 0 0 0 0 0 0 0 OUTSIDE",
            "load f!!!!!!!b0000; rows(0, *) = 1 1 1 1 1 1 1 1 1 1 OUTSIDE",
            // two units a sign, 7 * 8 of them
            "load p1!aaaaaaa0000; rows(0, *) = 1 0 49 0 2401 0 117649 0 5764801 0 OUTSIDE",
            // a sign of one unit, or one of seven beginnings with one of eight ends: r(n) = r(n - 1) + 56 r(n - 2)
            "load p1aaaaaaaa0000; rows(0, *) = 1 1 57 113 3305 9633",
            // three units a sign, one beginning with seven times seven
            "load ce+++++++0000; rows(0, *) = 1 0 0 49 0 0 2401 0 0 117649 OUTSIDE",
            "load cd+!!!!!!0000; rows(0, *) = 1 0 1 0 1 0 1 0 1 0 OUTSIDE",
            // one way to turn and to turn back: of n units an even number of them
            "load t0!!!!!!!!!!!!!!!!0000; rows(0, *) = 1 0 1 0 1 0 1 0 1 0 OUTSIDE",
            // s(n) = 7 s(n - 1) + o(n - 1), o(n) = 7 o(n - 1) + s(n - 1): half of 8^n and 6^n together
            "load t7aaaaaaaaaaaaaaaa0000; rows(0, *) = 1 7 50 364 2696 20272 154400 1188544 9228416 72147712 OUTSIDE",
            ALL + "units 0000; open(1) = 4; rows(0, 9) = 134217728; rows(0, 0) = 1");
        bounds.says("UNKNOWN if there is no such code;", "rows(0, 0) = UNKNOWN; rows(0, 10) = UNKNOWN",
            ALL + "rows(1, 0) = UNKNOWN; rows(-1, 9) = UNKNOWN; rows(LEAST, 0) = UNKNOWN; "
            + "rows(MOST, 0) = UNKNOWN; rows(1, 10) = UNKNOWN; rows(1, -1) = UNKNOWN; drop() = 0; rows(0, 0) = UNKNOWN");
        bounds.says("OUTSIDE if n is out of range.", ALL + "rows(0, -1) = OUTSIDE; rows(0, 10) = OUTSIDE; "
            + "rows(0, LEAST) = OUTSIDE; rows(0, MOST) = OUTSIDE; rows(0, 9) = 134217728; rows(0, 0) = 1");
    }

    private void apart() {
        bounds.section("Promise 19");
        bounds.says("Returns the length of the shortest row that distinguishes two codes: it is valid in the first code, but "
            + "not in the other one.",
            ALL + BUT_SEVEN + "apart(0, 1) = 1; apart(1, 0) = NONE", "load p3aaaaaaaa0000; load faaaaaa!a0000; "
            + "apart(0, 1) = 2; apart(1, 0) = 1",
            "load ce++!!!!!0000; load cc++!!!!!0000; apart(0, 1) = 3; apart(1, 0) = 2",
            // 00 and 070 are valid in both, 77 within 0770 is no sign of the other
            "load t0!!!!!!!!!!!!!!!a0000; load p7aaaaaaa!0000; apart(0, 1) = 4; apart(1, 0) = 1",
            // not valid because a unit is not allowed, a sign does not end, the code is turned over
            "load fa!!!!!!!0000; " + NOTHING + "apart(0, 1) = 1", "load f!!!!!!!a0000; load p7aaaaaaaa0000; apart(0, 1) = 1",
            "load f!!!!!!!a0000; load t7aaaaaaaaaaaaaaaa0000; apart(0, 1) = 1", "load f!!!!!!!a0000; load cbbbbbbbc0000; "
            + "apart(0, 1) = 1");
        bounds.says("one: the first code", BUT_SEVEN + ALL + "apart(1, 0) = 1; apart(0, 1) = NONE");
        bounds.says("other: the other code, possibly the same", FOUR + "apart(0, 0) = NONE; apart(1, 1) = NONE; "
            + "apart(2, 2) = NONE; apart(3, 3) = NONE", ALL + ALL + "apart(0, 1) = NONE; apart(1, 0) = NONE");
        bounds.says("Returns the number of units; UNKNOWN if there is no such code;", "apart(0, 0) = UNKNOWN",
            ALL + "apart(0, 1) = UNKNOWN; apart(1, 0) = UNKNOWN; apart(1, 1) = UNKNOWN; "
            + "apart(-1, 0) = UNKNOWN; apart(0, -1) = UNKNOWN; apart(LEAST, 0) = UNKNOWN; apart(0, MOST) = UNKNOWN; "
            + "apart(0, LEAST) = UNKNOWN; apart(MOST, 0) = UNKNOWN",
            ALL + NOTHING + "apart(0, 1) = 1; drop() = 1; apart(0, 1) = UNKNOWN; apart(1, 0) = UNKNOWN",
            FOUR + "apart(3, 4) = UNKNOWN; apart(4, 3) = UNKNOWN; apart(3, 3) = NONE");
        bounds.says("NONE if there is no such row.", NOTHING + ALL + "apart(0, 1) = NONE",
            ALL + "load fbbbbbbbb9999; apart(0, 1) = NONE; apart(1, 0) = NONE",
            // never valid but for the empty row, which is valid in all
            "load ccccccccc0000; " + NOTHING + "apart(0, 1) = NONE; apart(1, 0) = NONE", "load p1!!!!!!!!0000; " + NOTHING
            + "apart(0, 1) = NONE",
            "load t0!!!!!!!!!!!!!!!!0000; load p1aaaaaaaa0000; apart(0, 1) = NONE; apart(1, 0) = 1");
    }

    private void tells() {
        bounds.section("Promise 20");
        bounds.says("Returns a unit of the row of apart();", ALL + BUT_SEVEN + "tells(0, 1, *) = 7 UNKNOWN",
            "load ce++!!!!!0000; load cc++!!!!!0000; tells(0, 1, *) = 0 1 1 UNKNOWN; "
            + "tells(1, 0, *) = 0 1 UNKNOWN", "load t0!!!!!!!!!!!!!!!a0000; load p7aaaaaaa!0000; "
            + "tells(0, 1, *) = 0 7 7 0 UNKNOWN; tells(1, 0, *) = 0 UNKNOWN");
        bounds.says("of several shortest rows, the lexicographically first one is meant.",
            ALL + NOTHING + "tells(0, 1, *) = 0 UNKNOWN", ALL + "load faa!a!aaa0000; tells(0, 1, *) = 2 UNKNOWN",
            "load p3aaaaaaaa0000; load faaaaaa!a0000; tells(0, 1, *) = 3 6 UNKNOWN", "load p3aaaaaaaa0000; load faaaaaaa!0000; "
            + "tells(0, 1, *) = 3 7 UNKNOWN",
            "load p3aaaaaaaa0000; load faaa!aaaa0000; tells(0, 1, *) = 3 0 UNKNOWN", "load p6aaaaaaaa0000; load faaaaaa!!0000; "
            + "tells(0, 1, *) = 6 0 UNKNOWN",
            "load p6!!!!!!!a0000; " + NOTHING + "tells(0, 1, *) = 6 7 UNKNOWN", "load c+e!+f!!!0000; " + NOTHING
            + "tells(0, 1, *) = 1 0 0 UNKNOWN");
        bounds.says("one: the first code", BUT_SEVEN + ALL + "tells(1, 0, 0) = 7; tells(0, 1, 0) = UNKNOWN");
        bounds.says("other: the other code, possibly the same", ALL + "tells(0, 0, 0) = UNKNOWN");
        bounds.says("place: the index of the unit, from 0 Returns the unit;", "load p3aaaaaaaa0000; load faaaaaa!a0000; "
            + "tells(0, 1, 0) = 3; tells(0, 1, 1) = 6");
        bounds.says("UNKNOWN if there is no such code, there is no such row, or it has no such index.",
            "tells(0, 0, 0) = UNKNOWN",
            ALL + NOTHING + "tells(0, 1, 0) = 0; tells(0, 1, 1) = UNKNOWN; tells(0, 1, -1) = UNKNOWN; "
            + "tells(0, 1, LEAST) = UNKNOWN; tells(0, 1, MOST) = UNKNOWN; tells(1, 0, 0) = UNKNOWN; "
            + "tells(0, 0, 0) = UNKNOWN; tells(0, 2, 0) = UNKNOWN; tells(2, 0, 0) = UNKNOWN; tells(2, 2, 0) = UNKNOWN; "
            + "tells(-1, 1, 0) = UNKNOWN; tells(0, -1, 0) = UNKNOWN; "
            + "tells(LEAST, 1, 0) = UNKNOWN; tells(0, MOST, 0) = UNKNOWN; drop() = 1; tells(0, 1, 0) = UNKNOWN",
            NOTHING + ALL + "tells(1, 0, 0) = 0; drop() = 1; tells(1, 0, 0) = UNKNOWN");
    }
}
