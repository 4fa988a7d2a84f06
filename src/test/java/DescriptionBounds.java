/** The sentences of the description: kinds, marks, texts, the stream, and what the codes make of it. */
final class DescriptionBounds {
    private static final String COUNTED = "load cabcdef+!1248; ";
    private static final String SIXTEEN = "aaaaaaaaaaaaaaaa";

    private final Bounds bounds;

    DescriptionBounds(Bounds bounds) {
        this.bounds = bounds;
    }

    void all() {
        bounds.section("What it is");
        whatItIs();
        bounds.section("Description");
        unitsAndPoints();
        marks();
        flat();
        paired();
        counted();
        wantedUnits();
        turned();
        turnedMarks();
        validRows();
        texts();
        codesAndStream();
        aliveAndWeight();
        judgedAndRanking();
    }

    private void whatItIs() {
        bounds.says("Encoding detection: several candidate codes read the same stream of units, and a judge tells which of"
            + " them the stream most probably is written in.",
            "load fa!!!!!!!1000; load f!a!!!!!!1000; judged() = 0; feed(1) = 1; judged() = 1; back() = 0; feed(0) = 1; "
            + "judged() = 0");
        bounds.says("An object is used for at most 512 calls after it has been made");
        CodeJudge judge = new CodeJudge();
        for (int call = 1; call <= 510; call += 2) {
            bounds.due("call " + call, judge.feed(call % 8), 1);
            bounds.due("call " + (call + 1), judge.back(), 0);
        }
        bounds.due("call 511", judge.count(1), 0);
        bounds.due("call 512", judge.count(7), 255);
        bounds.says("what later calls answer is free.");
        String[] calls = {"letter", "blank", "fault", "code", "drop", "ink", "open", "feed", "feeds", "back", "unit",
            "about", "points", "pairs", "judged", "rank", "rows", "apart", "tells", "cuts", "piece", "count", "digest"};
        for (String call : calls) {
            Calls.answer(judge, call, 97, 0, 0);
            bounds.holds(call + " does not fail behind them", true);
        }
    }

    private void unitsAndPoints() {
        bounds.says("The class reads codes from texts, follows all codes as state machines unit by unit, weighs them by pairs"
            + " of neighbouring signs, ranks them, tells after how many units the decision is certain whatever follows,"
            + " counts valid rows, finds the shortest row that distinguishes two codes, and divides the stream into pieces"
            + " of different codes with the greatest worth.",
            "load fab!!!!!!1248; load f!!ab!!!!9999; open(4) = 0; units 0123; about(0, 4) = 2; rank(*) = 0 1; "
            + "about(1, 6) = 0; rows(0, 2) = 4; apart(0, 1) = 1; cuts(*) = 4 2");
        bounds.says("Units are the numbers 0 to 7.",
            "feed(-1) = OUTSIDE; feed(0) = 1; feed(7) = 2; feed(8) = OUTSIDE; feed(LEAST) = OUTSIDE; feed(MOST) = OUTSIDE; "
            + "unit(*) = 0 7 UNKNOWN",
            "page /; feeds() = STATE; blank() = 1; page 07; feeds() = 2; page 8; feeds() = STATE; unit(*) = 0 7 UNKNOWN");
        bounds.says("A code divides a row of units into signs; each sign is of sort A or B.",
            "load fabababab1248; units 00110; about(0, 3) = 5; pairs(0, *) = 1 1 1 1; about(0, 4) = 15");
        bounds.says("A code has a kind, marks, and four points from 0 to 9, for a sign of sort A directly followed by one of"
            + " sort A, A followed by B, B followed by A, and B followed by B.",
            "load faaaaaaaa0000; points(0, *) = 0 0 0 0; units 00; about(0, 4) = 0",
            "load faaaaaaaa9999; points(0, *) = 9 9 9 9; units 00; about(0, 4) = 9",
            "load fabababab1248; units 00; about(0, 4) = 1", "load fabababab1248; units 01; about(0, 4) = 2",
            "load fabababab1248; units 10; about(0, 4) = 4", "load fabababab1248; units 11; about(0, 4) = 8",
            "page faaaaaaaa123; code() = STATE; fault() = 12", "page faaaaaaaa12345; code() = STATE; fault() = 13");
        for (int place = 0; place < 4; place++) {
            String before = "page faaaaaaaa" + "0".repeat(place);
            String behind = "0".repeat(3 - place);
            for (String digit : new String[] {"0", "9"}) {
                bounds.run(before + digit + behind + "; fault() = 13; code() = 0");
            }
            for (String sign : new String[] {"/", ":", "a", "!"}) {
                bounds.run(before + sign + behind + "; fault() = " + (9 + place) + "; code() = STATE");
            }
        }
    }

    private void marks() {
        bounds.says("The marks are given for the units 0 to 7, in this order: \"a\" (sort A), \"b\" (sort B) and \"!\" "
            + "(forbidden:"
            + " where a sign would get its sort from a unit with this mark, the unit is not allowed).",
            "load fab!!!!!!1248; units 01; pairs(0, *) = 0 1 0 0; feed(2) = 3; about(0, 1) = 0; about(0, 5) = 2");
        for (int marked = 0; marked < 8; marked++) {
            String marks = "!".repeat(marked) + "a" + "!".repeat(7 - marked);
            CodeJudge judge = bounds.after("load f" + marks + "0000; load p7" + marks + "0000; load c" + marks
                + "0000; load t7" + marks + marks + "0000");
            for (int unit = 0; unit < 7; unit++) {
                judge.feed(unit);
                for (int code = 0; code < 4; code++) {
                    bounds.due("unit " + unit + " of " + marks + " in " + code, judge.about(code, 1), unit == marked ? 1 : 0);
                    bounds.due("bad " + unit + " of " + marks + " in " + code, judge.about(code, 5), unit == marked ? -1 : 0);
                }
                judge.back();
            }
            judge.feed(7);
            bounds.due("unit 7 of " + marks + " flat", judge.about(0, 1), marked == 7 ? 1 : 0);
            bounds.due("unit 7 of " + marks + " counted", judge.about(2, 1), marked == 7 ? 1 : 0);
        }
        everySignAsMark("f", 8, "ab!");
        everySignAsMark("p3", 8, "ab!");
        everySignAsMark("c", 8, "abcdef+!");
        everySignAsMark("t3", 16, "ab!");
    }

    private void everySignAsMark(String begin, int size, String marks) {
        for (int place = 0; place < size; place++) {
            CodeJudge judge = new CodeJudge();
            for (char sign = 32; sign < 127; sign++) {
                judge.blank();
                Check.type(judge, begin + "a".repeat(place) + sign);
                int end = begin.length() + place;
                bounds.due("fault() of " + begin + ", mark " + place + " is " + sign, judge.fault(),
                    marks.indexOf(sign) >= 0 ? end + 1 : end);
            }
        }
    }

    private void flat() {
        bounds.says("The kinds are: 0 flat: it has eight marks.", "load faaaaaaaa0000; about(0, 0) = 0",
            "page faaaaaaa0; fault() = 8", "page faaaaaaa0000; code() = STATE",
            "page faaaaaaaaa; fault() = 9", "page faaaaaaaaa0000; code() = STATE");
        bounds.says("Each unit is a sign; its sort is that of its mark.",
            "load fabababab0000; units 01234567; about(0, 3) = 8; about(0, 2) = 1; pairs(0, *) = 0 4 3 0");
    }

    private void paired() {
        bounds.says("1 paired: it has a digit q from 1 to 7, and eight marks.", "load p1aaaaaaaa0000; about(0, 0) = 1",
            "load p7aaaaaaaa0000", "page p0; fault() = 1", "page p8; fault() = 1", "page p1; fault() = 2", "page p7; fault() = 2",
            "page p0aaaaaaaa0000; fault() = 1; code() = STATE", "page p8aaaaaaaa0000; fault() = 1; code() = STATE",
            "page p1aaaaaaa0; fault() = 9", "page p1aaaaaaa0000; code() = STATE",
            "page p1aaaaaaaaa; fault() = 10", "page p1aaaaaaaaa0000; code() = STATE");
        bounds.says("At the beginning of a sign, a unit less than q is a sign; its sort is that of its mark.",
            "load p1ab!!!!!!1248; feed(0) = 1; about(0, *) = 1 1 1 1 0 NONE 0 0; feed(1) = 2; about(0, *) = 1 1 0 1 0 NONE 0 0",
            "load p7aaaaaaab1248; feed(6) = 1; about(0, 2) = 1; about(0, 3) = 1; feed(7) = 2; about(0, 2) = 0; about(0, 3) = 1",
            "load p4aabb!!!!1248; units 0123; about(0, 3) = 4; pairs(0, *) = 1 1 0 1; feed(4) = 5; about(0, 2) = 0; "
            + "about(0, 3) = 4",
            "load p4aa!baaaa1248; units 02; about(0, 1) = 0; about(0, 3) = 1; about(0, 5) = 1");
        String mixed = "load p4a!!b!ab!1248; ";
        String highA = "load p4bbbbaaaa1248; ";
        String ends = "load p4!aaaaaa!1248; ";
        bounds.says("Any other unit begins a sign, whatever its mark, and the next unit, whatever its number, ends this sign, "
            + "which"
            + " has the sort of the mark of that next unit.",
            mixed + "feed(4) = 1; about(0, *) = 1 1 0 0 0 NONE 0 0; feed(0) = 2; about(0, *) = 1 1 1 1 0 NONE 0 0",
            mixed + "units 4043; pairs(0, *) = 0 1 0 0", mixed + "units 50607040; about(0, 3) = 4; pairs(0, *) = 3 0 0 0",
            mixed + "units 4644; about(0, 1) = 0; about(0, 3) = 1; about(0, 5) = 3",
            highA + "units 40434447; about(0, 3) = 4; pairs(0, *) = 1 0 1 1",
            highA + "units 77; about(0, 2) = 1; about(0, 3) = 1; feed(7) = 3; about(0, 2) = 0",
            ends + "units 40; about(0, 5) = 1", ends + "units 47; about(0, 5) = 1", ends + "units 44; about(0, 2) = 1",
            ends + "units 71; about(0, 2) = 1", ends + "feed(0) = 1; about(0, 5) = 0", ends + "feed(7) = 1; about(0, 1) = 1");
    }

    private void counted() {
        bounds.says("2 counted: it has eight marks, which may also be \"c\", \"d\", \"e\", \"f\" and \"+\".",
            "load ccdef+ab!0000; about(0, 0) = 2", "page caaaaaaag; fault() = 8", "page caaaaaaa*; fault() = 8",
            "page caaaaaaa,; fault() = 8", "page caaaaaaa0; fault() = 8", "page caaaaaaa0000; code() = STATE",
            "page caaaaaaaaa; fault() = 9", "page fc; fault() = 1", "page f+; fault() = 1", "page p1f; fault() = 2",
            "page t0e; fault() = 2", "page t0aaaaaaaad; fault() = 10");
        bounds.says("At the beginning of a sign, a unit with the mark a or b is a sign of this sort;",
            COUNTED + "units 0; about(0, 2) = 1; about(0, 3) = 1; units 01; about(0, 3) = 3; pairs(0, *) = 1 1 0 0");
        bounds.says("with c or d it begins a sign of sort A or B that wants one more unit;",
            COUNTED + "feed(2) = 1; about(0, 2) = 0; about(0, 3) = 0; feed(6) = 2; about(0, 2) = 1; about(0, 3) = 1; "
            + "feed(3) = 3; about(0, 2) = 0; about(0, 3) = 1; feed(6) = 4; about(0, 2) = 1; pairs(0, *) = 0 1 0 0");
        bounds.says("with e or f it begins a sign of sort A or B that wants two more;",
            COUNTED + "feed(4) = 1; about(0, 2) = 0; feed(6) = 2; about(0, 2) = 0; about(0, 3) = 0; feed(6) = 3; "
            + "about(0, 2) = 1; "
            + "about(0, 3) = 1; units 56; about(0, 2) = 0; about(0, 3) = 1; feed(6) = 6; about(0, 2) = 1; pairs(0, *) = 0 1 0 0");
        bounds.says("\"+\" and \"!\" are not allowed.", COUNTED + "feed(6) = 1; about(0, 1) = 0; about(0, 5) = 0",
            COUNTED + "feed(7) = 1; about(0, 1) = 0; about(0, 5) = 0", COUNTED + "units 06; about(0, 5) = 1",
            COUNTED + "units 07; about(0, 5) = 1", COUNTED + "units 266; about(0, 3) = 1; about(0, 5) = 2",
            COUNTED + "units 4666; about(0, 3) = 1; about(0, 5) = 3");
        bounds.says("The sign ends when no more units are wanted.",
            COUNTED + "units 3; about(0, 3) = 0; units 6; about(0, 3) = 1; units 56; about(0, 3) = 1; units 6; about(0, 3) = 2; "
            + "pairs(0, *) = 0 0 0 1", COUNTED + "units 2636466566; about(0, 3) = 4; pairs(0, *) = 0 2 1 0; about(0, 2) = 1");
    }

    private void wantedUnits() {
        bounds.says("Where a unit is wanted, only units with the mark \"+\" are allowed.");
        for (int begun = 2; begun <= 5; begun++) {
            for (int unit = 0; unit < 8; unit++) {
                boolean plus = unit == 6;
                bounds.run(COUNTED + "units " + begun + unit + "; about(0, 1) = " + (plus ? 1 : 0) + "; about(0, 5) = "
                    + (plus ? "NONE" : "1"));
                if (begun >= 4) {
                    bounds.run(COUNTED + "units " + begun + "6" + unit + "; about(0, 2) = " + (plus ? 1 : 0)
                        + "; about(0, 5) = " + (plus ? "NONE" : "2"));
                }
            }
        }
    }

    private void turned() {
        bounds.says("3 turned: it has a digit q from 0 to 7, and twice eight marks:", "load t0" + SIXTEEN + "0000; "
            + "about(0, 0) = 3",
            "load t7" + SIXTEEN + "0000", "page t/; fault() = 1", "page t8; fault() = 1", "page t0; fault() = 2",
            "page t7; fault() = 2",
            "page t8" + SIXTEEN + "0000; code() = STATE", "page t/" + SIXTEEN + "0000; code() = STATE",
            "page t0aaaaaaaa0; fault() = 10", "page t0aaaaaaaaaaaaaaa0; fault() = 17", "page t0" + SIXTEEN + "a; fault() = 18",
            "page t0aaaaaaaaaaaaaaa0000; code() = STATE", "page t0" + SIXTEEN + "a0000; code() = STATE");
        bounds.says("the second eight are used while the code is turned over, the first eight otherwise.",
            "load t7aaaaaaaabbbbbbbb1248; units 07070; about(0, 3) = 3; about(0, 2) = 1; pairs(0, *) = 0 1 1 0",
            "load t7a!!!!!!!!a!!!!!!0000; units 0717; about(0, 2) = 1; feed(1) = 5; about(0, 5) = 4",
            "load t7a!!!!!!!!a!!!!!!0000; units 70; about(0, 5) = 1");
        String ahead = "load t7a!!!!!!!!b!!!!!!1248; ";
        bounds.says("At the beginning the code is not turned over.", ahead + "feed(0) = 1; about(0, 2) = 1",
            ahead + "feed(1) = 1; about(0, 5) = 0", ahead + "about(0, 2) = 1; feed(7) = 1; about(0, 2) = 0; open(5) = 1; "
            + "about(0, 2) = 1; "
            + "feed(0) = 1; about(0, 2) = 1", ahead + "feed(7) = 1; back() = 0; feed(0) = 1; about(0, 2) = 1");
        bounds.says("The unit q, whatever its mark, turns the code over, or back again; it is no sign, and is ignored when signs"
            + " follow each other.");
        for (String mark : new String[] {"a", "b", "!"}) {
            String first = "load t0" + mark + "abaaaaa" + mark + "baaaaaa1248; ";
            bounds.run(first + "feed(0) = 1; about(0, *) = 3 1 0 0 0 NONE 0 0; feed(0) = 2; about(0, *) = 3 1 1 0 0 NONE 0 0; "
                + "feed(0) = 3; about(0, *) = 3 1 0 0 0 NONE 0 0");
            bounds.run(first + "units 10010; about(0, 3) = 2; pairs(0, *) = 1 0 0 0; units 10; about(0, 3) = 3; about(0, 2) = 1; "
                + "pairs(0, *) = 1 1 0 0; units 2; pairs(0, *) = 1 1 0 1");
            String last = "load t7aaaaaab" + mark + "bbbbbba" + mark + "1248; ";
            bounds.run(last + "feed(7) = 1; about(0, 1) = 1; about(0, 2) = 0; about(0, 3) = 0; units 6; about(0, 3) = 1; "
            + "feed(7) = 3; "
                + "about(0, 2) = 1; about(0, 3) = 1; feed(6) = 4; pairs(0, *) = 0 1 0 0");
        }
    }

    private void turnedMarks() {
        bounds.says("Each other unit is a sign of the sort of its mark.");
        String straight = "ab!!ba!b";
        String over = "!ba!aabb";
        for (int unit = 0; unit < 8; unit++) {
            if (unit != 3) {
                turnedMark("load t3" + straight + over + "1248; ", "" + unit, straight.charAt(unit));
                turnedMark("load t3" + straight + over + "1248; ", "3" + unit + "3", over.charAt(unit));
            }
        }
    }

    /** Behind the units an A comes, so that the pair shows their sort. */
    private void turnedMark(String load, String units, char mark) {
        int alive = mark == '!' ? 0 : 1;
        String pairs = mark == 'a' ? "1 0 0 0" : mark == 'b' ? "0 0 1 0" : "0 0 0 0";
        bounds.run(load + "units " + units + "0; about(0, 1) = " + alive + "; about(0, 3) = " + 2 * alive + "; pairs(0, *) = "
            + pairs);
    }

    private void validRows() {
        bounds.says("A row of units is valid in a code if each unit is allowed, no sign is begun but not ended at its end, and "
            + "the"
            + " code is not turned over at its end.",
            "load fa!aaaaaa0000; units 0; about(0, 2) = 1; units 1; about(0, 2) = 0; units 0; about(0, 2) = 0; rows(0, 1) = 7",
            "load p7aaaaaaaa0000; feed(7) = 1; about(0, 2) = 0; feed(7) = 2; about(0, 2) = 1; rows(0, 1) = 7",
            COUNTED + "feed(4) = 1; about(0, 2) = 0; feed(6) = 2; about(0, 2) = 0; feed(6) = 3; about(0, 2) = 1; rows(0, 1) = 2",
            "load t0" + SIXTEEN + "0000; feed(0) = 1; about(0, 2) = 0; feed(1) = 2; about(0, 2) = 0; feed(0) = 3; "
            + "about(0, 2) = 1; "
            + "rows(0, 1) = 7");
        bounds.says("(The empty row is valid.)");
        for (String text : new String[] {"f!!!!!!!!0000", "p1!!!!!!!!0000", "c!!!!!!!!0000", "t0!!!!!!!!!!!!!!!!0000"}) {
            bounds.run("load " + text + "; about(0, *) = " + "fpct".indexOf(text.charAt(0)) + " 1 1 0 0 NONE; rows(0, 0) = 1; "
                + "rows(0, 1) = 0; judged() = 0; count(3) = 1; count(4) = 1; feed(0) = 1; count(4) = 0; judged() = NONE; "
                + "back() = 0; count(4) = 1; judged() = 0; apart(0, 0) = NONE");
            bounds.run("load " + text + "; load f!!!!!!!!0000; apart(1, 0) = NONE");
        }
    }

    private void texts() {
        bounds.says("The text of a code is the letter of its kind (\"f\" flat, \"p\" paired, \"c\" counted, \"t\" turned), its "
            + "digit (only"
            + " paired and turned), its marks, and the four points as digits.",
            "page f1; fault() = 1", "page c1; fault() = 1", "page pa; fault() = 1", "page ta; fault() = 1",
            "page p11; fault() = 2",
            "page t11; fault() = 2", "page paaaaaaaa0000; code() = STATE", "page taaaaaaaaaaaaaaaa0000; code() = STATE",
            "page f1aaaaaaaa0000; code() = STATE", "page c1aaaaaaaa0000; code() = STATE");
        String[] texts = {"faaaaaaaa0000", "p1aaaaaaaa0000", "caaaaaaaa0000", "t1" + SIXTEEN + "0000"};
        for (int kind = 0; kind < 4; kind++) {
            String text = texts[kind];
            int size = text.length();
            bounds.run("page " + text.substring(0, size - 1) + "; fault() = " + (size - 1) + "; code() = STATE");
            bounds.run("page " + text + "; fault() = " + size + "; code() = 0; about(0, 0) = " + kind);
            bounds.run("page " + text + "0; fault() = " + size + "; code() = STATE");
        }
        CodeJudge judge = new CodeJudge();
        for (char letter = 32; letter < 127; letter++) {
            judge.blank();
            judge.letter(letter);
            bounds.due("fault() of " + letter, judge.fault(), "fpct".indexOf(letter) >= 0 ? 1 : 0);
        }
    }

    private void codesAndStream() {
        String four = "load faaaaaaaa0000; load p1aaaaaaaa0000; load caaaaaaaa0000; load t1" + SIXTEEN + "0000; ";
        bounds.says("There are at most four codes, numbered from 0.", "about(0, 0) = UNKNOWN; about(-1, 0) = UNKNOWN",
            four + "about(-1, 0) = UNKNOWN; about(0, 0) = 0; about(1, 0) = 1; about(2, 0) = 2; about(3, 0) = 3; "
            + "about(4, 0) = UNKNOWN; "
            + "count(0) = 4; page faaaaaaaa0000; code() = FULL; count(0) = 4; drop() = 3; code() = 3; about(3, 0) = 0");
        bounds.says("The stream has a length from 1 to 40 (at first 40), and the units that have come so far, at most as many "
            + "as the"
            + " length.", "count(2) = 40; units " + "0".repeat(39) + "; feed(1) = 40; feed(1) = FULL; count(1) = 40",
            "open(0) = OUTSIDE; count(2) = 40; open(1) = 0; count(2) = 1; feed(0) = 1; feed(0) = FULL; count(1) = 1",
            "open(41) = OUTSIDE; open(39) = 0; units " + "0".repeat(39) + "; feed(0) = FULL; open(40) = 39; units "
            + "0".repeat(40)
            + "; feed(0) = FULL");
        bounds.says("All codes read all these units, from the first one on, also codes that are added later.",
            "units 00; load faaaaaaaa1000; about(0, 3) = 2; about(0, 4) = 1; feed(0) = 3; load faaaaaaaa2000; about(0, 4) = 2; "
            + "about(1, 3) = 3; about(1, 4) = 4", "units " + "0".repeat(40) + "; load faaaaaaaa9000; about(0, 3) = 40; "
            + "about(0, 4) = 351",
            "units 0; load f!aaaaaaa0000; about(0, 5) = 0; drop() = 0; load faaaaaaaa0000; about(0, 5) = NONE");
    }

    private void aliveAndWeight() {
        String gap = "load faaaaaaa!1000; ";
        bounds.says("A code is alive if each unit that has come is allowed, and valid if the row of all units that have come "
            + "is valid"
            + " in it.", gap + "about(0, 1) = 1; about(0, 2) = 1; feed(7) = 1; about(0, 1) = 0; about(0, 2) = 0; feed(0) = 2; "
            + "about(0, 1) = 0; about(0, 2) = 0; back() = 1; about(0, 1) = 0; back() = 0; about(0, 1) = 1; about(0, 2) = 1",
            gap + "units " + "0".repeat(39) + "; about(0, 1) = 1; feed(7) = 40; about(0, 1) = 0; about(0, 5) = 39; "
            + "back() = 39; about(0, 1) = 1",
            "load p7aaaaaaaa1000; units 07; about(0, 1) = 1; about(0, 2) = 0; feed(0) = 3; about(0, 2) = 1");
        bounds.says("Its signs are the signs that ended, and its weight is the sum of the points of all pairs of signs that "
            + "directly"
            + " follow each other;", "load faaaaaaaa9000; about(0, 3) = 0; about(0, 4) = 0; feed(0) = 1; about(0, 3) = 1; "
            + "about(0, 4) = 0; "
            + "feed(0) = 2; about(0, 3) = 2; about(0, 4) = 9; feed(0) = 3; about(0, 4) = 18; units " + "0".repeat(37)
            + "; about(0, 3) = 40; about(0, 4) = 351",
            "load p4aaaaaaaa9000; units 04; about(0, 3) = 1; about(0, 4) = 0; feed(4) = 3; about(0, 3) = 2; about(0, 4) = 9",
            COUNTED + "units 046; about(0, 3) = 1; about(0, 4) = 0; feed(6) = 4; about(0, 3) = 2; about(0, 4) = 1");
        bounds.says("for a code that is not alive, only the units before the first one that is not allowed count for this.",
            gap + "units 7000; about(0, 3) = 0; about(0, 4) = 0; about(0, 5) = 0; pairs(0, 0) = 0",
            gap + "units 0007000; about(0, 3) = 3; about(0, 4) = 2; about(0, 5) = 3; pairs(0, 0) = 2",
            gap + "units 0707; about(0, 3) = 1; about(0, 4) = 0; about(0, 5) = 1",
            COUNTED + "units 00400; about(0, 3) = 2; about(0, 4) = 1; about(0, 5) = 3");
    }

    private void judgedAndRanking() {
        String one = "load faaaaaaaa1000; ";
        String two = "load faaaaaaaa2000; ";
        String open = "load p7aaaaaaaa9000; ";
        String dead = "load faaaaaaa!9000; ";
        bounds.says("The judged code is the one with the greatest weight of all valid codes;",
            one + two + "judged() = 0; feed(0) = 1; judged() = 0; feed(0) = 2; judged() = 1",
            two + one + "units 00; judged() = 0",
            one + two + one + "units 00; judged() = 1", open + one + "units 0007; about(0, 4) = 18; judged() = 1",
            dead + one + "units 0007; about(0, 4) = 18; judged() = 1", one + one + one + two + "units 00; judged() = 3");
        bounds.says("of several, the one with the lowest number;", one + one + one + one + "units 00; judged() = 0",
            dead + one + one + "units 007; judged() = 1", one + two + two + "units 00; judged() = 1");
        bounds.says("there is none if no code is valid.", "judged() = NONE", "units 0; judged() = NONE",
            open + "feed(7) = 1; judged() = NONE; feed(7) = 2; judged() = 0", dead + open + "load t7" + SIXTEEN + "9000; "
            + "feed(7) = 1; "
            + "judged() = NONE; back() = 0; judged() = 0", one + "drop() = 0; judged() = NONE");
        bounds.says("The ranking of all codes has the valid ones first, then the others that are alive, then the others;",
            dead + open + one + "units 0007; about(0, 4) = 18; about(1, 4) = 18; about(2, 4) = 3; rank(*) = 2 1 0 UNKNOWN; "
            + "about(0, 7) = 2; about(1, 7) = 1; about(2, 7) = 0", dead + open + "feed(7) = 1; rank(*) = 1 0 UNKNOWN",
            dead + one + "feed(7) = 1; rank(*) = 1 0 UNKNOWN");
        bounds.says("within each of these groups, those with greater weight come first;", one + two + "units 00; "
            + "rank(*) = 1 0 UNKNOWN",
            "load p7aaaaaaaa1000; load p7aaaaaaaa2000; units 007; rank(*) = 1 0 UNKNOWN",
            "load faaaaaaa!1000; load faaaaaaa!2000; units 007; rank(*) = 1 0 UNKNOWN");
        bounds.says("of several, those with lower numbers.", one + one + one + one + "rank(*) = 0 1 2 3 UNKNOWN; units 00; "
            + "rank(*) = 0 1 2 3 UNKNOWN", open + open + "feed(7) = 1; rank(*) = 0 1", dead + dead + "feed(7) = 1; rank(*) = 0 1",
            dead + one + dead + one + "units 007; rank(*) = 1 3 0 2; about(0, 7) = 2; about(1, 7) = 0; about(2, 7) = 3; "
            + "about(3, 7) = 1");
    }
}
