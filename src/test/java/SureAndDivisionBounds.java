/** The sentences of the description on being sure, and on the best division. */
final class SureAndDivisionBounds {
    private static final String LOW_HIGH = "load faaaabbbb9000; load fbbbbaaaa9000; ";

    private final Bounds bounds;

    SureAndDivisionBounds(Bounds bounds) {
        this.bounds = bounds;
    }

    void all() {
        bounds.section("Description");
        rowsAndN();
        rowsWithinASign();
        someRowIsValid();
        judgedInEachRow();
        rowsWithoutASign();
        division();
        worth();
        best();
        firstPieceThatDiffers();
    }

    private void rowsAndN() {
        bounds.says("Consider all rows of as many units as the length says that begin with the first N units that have come.",
            // two units a sign: rows of an even number of units alone
            "load p1!aaaaaaa0000; open(1) = 0; about(0, 6) = NONE; open(2) = 0; about(0, 6) = 0; open(3) = 0; "
            + "about(0, 6) = NONE; "
            + "open(39) = 0; about(0, 6) = NONE; open(40) = 0; about(0, 6) = 0",
            LOW_HIGH + "open(2) = 0; feed(0) = 1; about(0, 6) = 1; open(3) = 1; feed(0) = 1; about(0, 6) = NONE; feed(0) = 2; "
            + "about(0, 6) = 2");
        bounds.says("A code is sure at N (0 to the number of units that have come)",
            "load faaaaaaaa0000; about(0, 6) = 0; open(1) = 0; about(0, 6) = 0; feed(0) = 1; about(0, 6) = 0",
            LOW_HIGH + "open(2) = 0; about(0, 6) = NONE; feed(0) = 1; about(0, 6) = 1; back() = 0; about(0, 6) = NONE",
            LOW_HIGH + "open(2) = 0; about(1, 6) = NONE; feed(4) = 1; about(1, 6) = NONE; feed(4) = 2; about(1, 6) = 2; "
            + "about(0, 6) = NONE; back() = 1; about(1, 6) = NONE",
            // forty units: the lower code needs half of them, the higher one one more
            LOW_HIGH + "units " + "0".repeat(19) + "; about(0, 6) = NONE; feed(0) = 20; about(0, 6) = 20; units " + "0".repeat(20)
            + "; about(0, 6) = 20; about(1, 6) = NONE",
            LOW_HIGH + "units " + "4".repeat(20) + "; about(1, 6) = NONE; feed(4) = 21; about(1, 6) = 21; units " + "4".repeat(19)
            + "; about(1, 6) = 21; about(0, 6) = NONE");
    }

    /** The first N units may end in the midst of a sign, or turned over, behind an A or a B: what follows depends on it. */
    private void rowsWithinASign() {
        String plain = "load faaaaaaaa0000; ";
        String[] points = {"9000", "0900", "0090", "0009"};
        for (int last = 0; last < 2; last++) {
            for (int begun = 2; begun <= 5; begun++) {
                // units 2 to 5 begin A, B, A, B; only the pair of the last sign with this one pays
                String counted = "load cabcdef+!" + points[last * 2 + begun % 2] + "; ";
                String more = begun < 4 ? "" : "feed(6) = 3; about(0, 6) = NONE; ";
                int length = begun < 4 ? 3 : 4;
                bounds.run(plain + counted + "open(" + length + ") = 0; feed(" + last + ") = 1; about(0, 6) = NONE; feed(" + begun
                    + ") = 2; about(0, 6) = NONE; " + more + "feed(7) = " + length + "; about(0, 6) = " + length);
                bounds.run("load cabcdef+!0000; load faaaaaaaa1000; open(" + length + ") = 0; feed(" + last + ") = 1; feed("
                + begun
                    + ") = 2; about(0, 6) = NONE; about(1, 6) = 0");
            }
        }
        // behind the B of 0, the sign 44 is the A that pays
        bounds.run(plain + "load p4bbbbaaaa0090; open(3) = 0; about(0, 6) = NONE; feed(0) = 1; about(0, 6) = NONE; feed(4) = 2; "
            + "about(0, 6) = NONE; feed(0) = 3; about(0, 6) = 3");
        bounds.run("load p4bbbbaaaa0000; load fb!!!a!!!9000; open(3) = 0; feed(0) = 1; about(0, 6) = NONE; feed(0) = 2; "
            + "about(0, 6) = 2");
        bounds.run(plain + "load t7bbbbbbb!aaaaaaa!0090; open(4) = 0; feed(0) = 1; about(0, 6) = NONE; feed(7) = 2; "
            + "about(0, 6) = NONE; "
            + "feed(7) = 3; about(0, 6) = 3");
        // asked again and again: what was found for one stream must not count for the next
        bounds.run(plain + "load p7aaaaaaaa9000; open(3) = 0; about(0, 6) = NONE; about(1, 6) = 0; units 00; about(0, 6) = NONE; "
            + "about(1, 6) = 0; feed(7) = 3; about(0, 6) = 3; about(1, 6) = 0; about(0, 6) = 3");
    }

    private void someRowIsValid() {
        bounds.says("if at least one of these rows is valid in it,", "load f!!!!!!!!9999; about(0, 6) = NONE; open(1) = 0; "
            + "about(0, 6) = NONE",
            "load faaaaaaa!0000; feed(7) = 1; about(0, 6) = 0",
            // once the other code has gone no row is left that it could lose, but none that it could win either
            "load fa!!!!!!!1000; load faaaaaaaa9000; open(3) = 0; feed(1) = 1; about(0, 6) = NONE; about(1, 6) = 0",
            "load p7aaaaaaaa9000; load faaaaaaaa0000; open(1) = 0; feed(7) = 1; about(0, 6) = 0; about(1, 6) = 1",
            // in 40 the paired code has no pair and loses; in 04 its sign does not end
            "load p4aaaaaaaa9999; load faaaaaaaa1111; open(2) = 0; about(0, 6) = NONE; feed(0) = 1; about(0, 6) = 1; "
            + "about(1, 6) = NONE; "
            + "feed(4) = 2; about(0, 6) = 1; about(1, 6) = 2",
            "load ce+!!!!!!0000; open(2) = 0; about(0, 6) = NONE; open(3) = 0; about(0, 6) = 0; open(4) = 0; about(0, 6) = NONE",
            "load t0!!!!!!!!!!!!!!!!0000; open(1) = 0; about(0, 6) = NONE; open(2) = 0; about(0, 6) = 0");
    }

    private void judgedInEachRow() {
        String one = "load faaaaaaaa1000; ";
        String two = "load faaaaaaaa2000; ";
        bounds.says("and it would be the judged code for each of these rows that is valid in it.",
            one + one + "about(0, 6) = 0; about(1, 6) = NONE; units 00; about(0, 6) = 0; about(1, 6) = NONE",
            one + two + "open(1) = 0; about(0, 6) = 0; about(1, 6) = NONE; open(2) = 0; about(0, 6) = NONE; about(1, 6) = 0",
            one + two + one + two + "open(3) = 0; about(0, 6) = NONE; about(1, 6) = 0; about(2, 6) = NONE; about(3, 6) = NONE; "
            + "drop() = 3; "
            + "drop() = 2; drop() = 1; about(0, 6) = 0",
            "load fa!!!!!!!0000; load f!aaaaaaa9999; open(5) = 0; about(0, 6) = 0; about(1, 6) = 0",
            // 777 is the one row that the first code loses
            "load faaaaaaaa0000; load f!!!!!!!a9000; open(3) = 0; about(0, 6) = NONE; about(1, 6) = 0; feed(7) = 1; "
            + "about(0, 6) = NONE; "
            + "feed(6) = 2; about(0, 6) = 2; about(1, 6) = 0",
            "load faaaaaaaa0000; load fa!!!!!!!9000; open(3) = 0; about(0, 6) = NONE; units 00; about(0, 6) = NONE; feed(0) = 3; "
            + "about(0, 6) = NONE; back() = 2; feed(1) = 3; about(0, 6) = 3");
    }

    /** At the end of a row a code may have no sign at all; one that is still open then is not valid. */
    private void rowsWithoutASign() {
        String signless = "load t0!!!!!!!!!!!!!!!!0000; ";
        bounds.run(signless + "load faaaaaaaa5000; open(2) = 0; about(0, 6) = NONE; about(1, 6) = 0");
        bounds.run(signless + "load faaaaaaaa0000; open(2) = 0; about(0, 6) = 0; about(1, 6) = NONE; feed(1) = 1; "
            + "about(1, 6) = 1");
        bounds.run("load faaaaaaaa0000; " + signless + "open(2) = 0; about(0, 6) = 0; about(1, 6) = NONE");
        bounds.run("load f!aaaaaaa0000; load p1aaaaaaaa0000; open(1) = 0; about(0, 6) = 0; about(1, 6) = 0");
        bounds.run("load p1aaaaaaaa0000; load f!aaaaaaa0000; open(1) = 0; about(0, 6) = 0; about(1, 6) = 0");
        bounds.run("load f!aaaaaaa0000; load t1aaaaaaaaaaaaaaaa0000; open(1) = 0; about(1, 6) = NONE; feed(0) = 1; "
            + "about(1, 6) = 1");
    }

    private void division() {
        bounds.says("A division cuts the units that have come into pieces of one or more units, each with a code in which the "
            + "piece is"
            + " valid as a row of its own.", "load faaaaaaaa0000; feed(0) = 1; cuts(*) = 0 1; piece(0, *) = 1 0 0; "
            + "piece(1, 0) = UNKNOWN",
            "load fa!!!!!!!0000; load f!a!!!!!!0000; units 010; cuts(*) = -14 3; piece(0, *) = 1 0 0; piece(1, *) = 2 1 0; "
            + "piece(2, *) = 3 0 0",
            "load p7aaaaaaaa9000; units 07; cuts(0) = STATE; feed(7) = 3; cuts(*) = 9 1",
            // in one piece the second 1 is read turned over; the pieces would each end so
            "load t7a!!!!!!!!a!!!!!!0000; units 0717; cuts(*) = 0 1; back() = 3; cuts(0) = STATE; back() = 2; cuts(0) = STATE; "
            + "back() = 1; cuts(0) = 0");
        bounds.says("(Without units it has no pieces, and its worth is 0.)", "cuts(*) = 0 0; piece(0, 0) = UNKNOWN",
            "load faaaaaaaa9000; cuts(*) = 0 0; piece(0, 0) = UNKNOWN; units 00; cuts(*) = 9 1; open(40) = 2; cuts(*) = 0 0; "
            + "piece(0, 0) = UNKNOWN", "load f!!!!!!!!0000; cuts(*) = 0 0; feed(0) = 1; cuts(0) = STATE; back() = 0; "
            + "cuts(*) = 0 0");
        bounds.says("There may be no division at all.", "feed(0) = 1; cuts(0) = STATE; cuts(1) = STATE; piece(0, 0) = UNKNOWN",
            "load faaaaaaa!0000; units 070; cuts(0) = STATE; cuts(1) = STATE; piece(0, 0) = UNKNOWN; back() = 2; "
            + "cuts(0) = STATE; back() = 1; "
            + "cuts(0) = 0", "load faaaaaaa!0000; load f!!!!!!!a0000; units 070; cuts(*) = -14 3; drop() = 1; cuts(0) = STATE",
            "load p7aaaaaaaa9000; feed(7) = 1; cuts(0) = STATE; cuts(1) = STATE; feed(7) = 2; cuts(0) = 0",
            "load faaaaaaa!0000; units 7" + "0".repeat(39) + "; cuts(0) = STATE", "load faaaaaaa!0000; units "
            + "0".repeat(39) + "7; cuts(0) = STATE");
    }

    private void worth() {
        bounds.says("Its worth is the sum of the weights of all pieces, each as a row of its own, minus 7 for each piece but "
            + "the first.",
            "load faaaaaaaa9000; units 000; cuts(*) = 18 1", "load faaaa!!!!9000; load f!!!!aaaa5000; units 000444; "
            + "cuts(*) = 21 2; piece(0, *) = 3 0 18; piece(1, *) = 6 1 10",
            "load faaaa!!!!9000; load f!!!!aaaa5000; units 0440; cuts(*) = -9 3; piece(0, 2) = 0; piece(1, 2) = 5; "
            + "piece(2, 2) = 0",
            "load faaaa!!!!9000; load f!!!!aaaa9000; units " + "04".repeat(20) + "; cuts(*) = -273 40; piece(39, *) = 40 1 0; "
            + "piece(40, 0) = UNKNOWN", "load faaaaaaaa9000; units " + "0".repeat(40) + "; cuts(*) = 351 1; "
            + "piece(0, *) = 40 0 351");
    }

    private void best() {
        String plain = "load faaaaaaaa0000; ";
        bounds.says("The best division is the one with the greatest worth;",
            // cut behind the 0 the second code gains its points, and the cut costs 7
            plain + "load f!!!!aaaa6000; units 044; cuts(*) = 0 1; piece(0, *) = 3 0 0",
            plain + "load f!!!!aaaa8000; units 044; cuts(*) = 1 2; piece(0, *) = 1 0 0; piece(1, *) = 3 1 8",
            plain + "load f!!!!aaaa8000; units 440; cuts(*) = 1 2; piece(0, *) = 2 1 8; piece(1, *) = 3 0 0",
            // a later end and a higher code, if they are worth more
            "load faaaa!!!!3000; load f!!aaaaaa1000; units 0224; cuts(*) = -1 2; piece(0, *) = 3 0 6; piece(1, *) = 4 1 0",
            "load faaaaaaaa1000; load faaaaaaaa2000; units 00; cuts(*) = 2 1; piece(0, *) = 2 1 2");
        bounds.says("of several, the one with the fewest pieces;",
            plain + "load f!!!!aaaa7000; units 044; cuts(*) = 0 1; piece(0, *) = 3 0 0",
            plain + "load f!!!!aaaa7000; units 440; cuts(*) = 0 1; piece(0, *) = 3 0 0",
            "load f!!!!aaaa7000; " + plain + "units 0440; cuts(*) = 0 1; piece(0, *) = 4 1 0",
            // three pieces would let the first one end earlier
            "load faaaaaaa!0000; load f!!!!aaa!7000; load f!!!!!!!a0000; units 0447; cuts(*) = -7 2; piece(0, *) = 3 0 0; "
            + "piece(1, *) = 4 2 0");
    }

    private void firstPieceThatDiffers() {
        bounds.says("of several, at the first piece that differs, the one whose piece ends earlier, or, if both end at the "
            + "same place, whose"
            + " piece has the lower code.",
            "load faaa!!!!!0000; load f!aaa!!!!0000; units 0113; cuts(*) = -7 2; piece(0, *) = 1 0 0; piece(1, *) = 4 1 0",
            "load faaaaaaaa1000; load faaaaaaaa1000; units 00; piece(0, *) = 2 0 1",
            "load f!aaaaaaa1000; load faaaaaaaa1000; load faaaaaaaa1000; units 00; piece(0, *) = 2 1 1",
            // the piece that ends earlier has the higher code
            "load cc+!!!!!!0000; load fa!!!!!!!0000; load f!a!a!!!!0000; units 013; cuts(*) = -7 2; piece(0, *) = 1 1 0; "
            + "piece(1, *) = 3 2 0",
            // the first pieces are the same, the second ones differ: in their ends, and in their codes
            "load fa!!!!!!!0000; load f!aa!!!!!0000; load f!!aa!!!!0000; units 0123; cuts(*) = -14 3; piece(0, *) = 1 0 0; "
            + "piece(1, *) = 2 1 0; piece(2, *) = 4 2 0",
            "load fa!!!!!!!0000; load f!a!!!!!!0000; load f!a!!!!!!0000; units 01; cuts(*) = -7 2; piece(0, *) = 1 0 0; "
            + "piece(1, *) = 2 1 0",
            "load f!a!!!!!!0000; load fa!!!!!!!0000; load fa!!!!!!!0000; units 01; cuts(*) = -7 2; piece(0, *) = 1 1 0; "
            + "piece(1, *) = 2 0 0");
    }
}
