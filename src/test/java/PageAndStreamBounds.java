/** The sentences of promises 1 to 12: a new object, texts, and units. */
final class PageAndStreamBounds {
    private static final String FLAT = "faaaabbbb1234";
    private static final String PAIRED = "p4ab!bab!b5678";
    private static final String COUNTED = "cabcdef+!9876";
    private static final String TURNED = "t7aabb!!aabbbbaaab9009";
    private static final String FOUR = "load " + FLAT + "; load " + PAIRED + "; load " + COUNTED + "; load " + TURNED + "; ";
    private static final String FORTY = "0".repeat(40);

    private final Bounds bounds;

    PageAndStreamBounds(Bounds bounds) {
        this.bounds = bounds;
    }

    void all() {
        newObject();
        letter();
        blank();
        fault();
        code();
        drop();
        ink();
        open();
        feed();
        feeds();
        back();
        unit();
    }

    private void newObject() {
        bounds.section("Promise 1");
        bounds.says("Creates a judge without codes and units, with the length 40 and an empty page.",
            "count(*) = 0 0 40 0 0 0 0 0; about(0, 0) = UNKNOWN; unit(0) = UNKNOWN; rank(0) = UNKNOWN; judged() = NONE; "
            + "fault() = 0; "
            + "blank() = 0; cuts(*) = 0 0; drop() = STATE; back() = STATE; code() = STATE; feeds() = 0; ink(0, 0) = UNKNOWN; "
            + "count(*) = 0 0 40 0 0 0 0 0", "open(40) = 0", "units " + FORTY + "; feed(0) = FULL",
            "page " + FORTY + "; letter(48) = FULL");
        CodeJudge used = bounds.after(FOUR + "units 0123; page abc");
        CodeJudge other = new CodeJudge();
        for (int what = 0; what < 8; what++) {
            bounds.due("count(" + what + ") beside a used object", other.count(what), what == 2 ? 40 : 0);
        }
        bounds.due("count(0) of the used one", used.count(0), 4);
        bounds.due("digest()", other.digest(), Listed.digest(other, ""));
    }

    private void letter() {
        bounds.section("Promise 2");
        bounds.says("Appends a character to the page.");
        for (String page : new String[] {" ", "~", "a", "ab", "ba", " ~", "~ "}) {
            CodeJudge judge = new CodeJudge();
            Check.type(judge, page);
            bounds.due("digest() with the page \"" + page + "\"", judge.digest(), Listed.digest(judge, page));
        }
        bounds.says("code: its code, 32 to 126", "letter(32) = 1; letter(126) = 2; letter(33) = 3; letter(125) = 4; "
            + "count(5) = 4");
        bounds.says("Returns the new length of the page;", "count(5) = 0; letter(97) = 1; count(5) = 1; letter(97) = 2; "
            + "blank() = 2; "
            + "letter(97) = 1; page " + "a".repeat(38) + "; letter(97) = 40; count(5) = 40");
        bounds.says("OUTSIDE if code is out of range;", "letter(31) = OUTSIDE; letter(127) = OUTSIDE; letter(-1) = OUTSIDE; "
            + "letter(0) = OUTSIDE; "
            + "letter(LEAST) = OUTSIDE; letter(MOST) = OUTSIDE; letter(128) = OUTSIDE; letter(353) = OUTSIDE; count(5) = 0",
            "page " + FORTY + "; letter(31) = OUTSIDE; letter(127) = OUTSIDE; letter(32) = FULL; count(5) = 40");
        bounds.says("FULL if the page has 40 characters.", "page " + "0".repeat(39) + "; letter(48) = 40; letter(48) = FULL; "
            + "letter(32) = FULL; "
            + "letter(126) = FULL; count(5) = 40; blank() = 40; letter(48) = 1");
    }

    private void blank() {
        bounds.section("Promise 3");
        bounds.says("Empties the page.", "page abc; blank() = 3; count(5) = 0; fault() = 0; letter(102) = 1; fault() = 1",
            "load " + FLAT + "; units 01; page ab; blank() = 2; count(*) = 1 2 40 1 1 0 1 2");
        bounds.says("Returns the length that it had.", "blank() = 0; letter(97) = 1; blank() = 1; blank() = 0",
            "page " + FORTY + "; blank() = 40; blank() = 0");
    }

    private void fault() {
        bounds.section("Promise 4");
        bounds.says("Returns the position, from 0, of the first character of the page with which the text so far is no "
            + "beginning of the text of"
            + " any code.", "page x; fault() = 0", "page xfaa; fault() = 0", "page fx; fault() = 1", "page faxax; fault() = 2",
            "page " + FLAT + "a; fault() = 13", "page " + PAIRED + "9; fault() = 14", "page " + COUNTED + "9; fault() = 13",
            "page " + TURNED + "9; fault() = 22", "page faaaabbbb123a; fault() = 12", "page p0; fault() = 1",
            "page p8; fault() = 1",
            "page t8; fault() = 1", "page t7aabb!!aabbbbaaab900:; fault() = 21", "letter(32) = 1; fault() = 0",
            "letter(126) = 1; fault() = 0",
            "page F; fault() = 0", "page fA; fault() = 1", "page x; fault() = 0; page f; fault() = 0");
        bounds.says("Returns the position; the length of the page if there is no such character.", "fault() = 0",
            "page f; fault() = 1",
            "page " + FLAT + "; fault() = 13; fault() = 13; count(5) = 13", "page " + PAIRED + "; fault() = 14",
            "page " + COUNTED + "; fault() = 13",
            "page " + TURNED + "; fault() = 22", "page " + FLAT + "a".repeat(27) + "; fault() = 13",
            "page f; blank() = 1; fault() = 0",
            FOUR + "fault() = 0; page t; fault() = 1");
        for (String text : new String[] {FLAT, PAIRED, COUNTED, TURNED}) {
            CodeJudge judge = new CodeJudge();
            for (int size = 1; size <= text.length(); size++) {
                judge.letter(text.charAt(size - 1));
                bounds.due("fault() of " + text.substring(0, size), judge.fault(), size);
            }
        }
    }

    private void code() {
        bounds.section("Promise 5");
        bounds.says("Reads the page as a code, which is added. The page is empty then.",
            "page " + TURNED + "; code() = 0; count(*) = 1 0 40 1 1 0 1 0; about(0, 0) = 3; ink(0, 21) = 57; blank() = 0; "
            + "letter(97) = 1",
            "page fab!ba!ab1248; code() = 0; ink(0, *) = 102 97 98 33 98 97 33 97 98 49 50 52 56 UNKNOWN; points(0, *) = 1 2 4 8",
            "load " + TURNED + "; drop() = 0; load " + FLAT + "; ink(0, 12) = 52; ink(0, 13) = UNKNOWN; "
            + "points(0, *) = 1 2 3 4; about(0, 0) = 0");
        bounds.says("Returns the number of the code;", FOUR + "count(0) = 4; count(6) = 4; drop() = 3; drop() = 2; load "
            + FLAT + "; about(2, 0) = 0; "
            + "count(6) = 5");
        bounds.says("STATE if the page is not the complete text of a code;", "code() = STATE",
            "page f; code() = STATE; count(5) = 1",
            "page " + FLAT.substring(0, 12) + "; code() = STATE; letter(52) = 13; code() = 0",
            "page " + FLAT + "0; code() = STATE",
            "page x" + FLAT + "; code() = STATE", "letter(32) = 1; page " + FLAT + "; code() = STATE",
            "page " + FLAT + "; letter(32) = 14; code() = STATE",
            "page " + FLAT + FLAT + "; code() = STATE; count(5) = 26; count(0) = 0; count(6) = 0",
            "page " + PAIRED.substring(0, 13) + "; code() = STATE", "page " + COUNTED.substring(0, 12) + "; code() = STATE",
            "page " + TURNED.substring(0, 21) + "; code() = STATE", "page " + FORTY + "; code() = STATE",
            FOUR + "code() = STATE; page f; code() = STATE");
        bounds.says("FULL if there are four codes.", "load " + FLAT + "; load " + FLAT + "; load " + FLAT + "; page " + FLAT
            + "; code() = 3; page " + FLAT
            + "; code() = FULL; count(*) = 4 0 40 4 4 13 4 0; drop() = 3; code() = 3; count(5) = 0; count(6) = 5");
    }

    private void drop() {
        bounds.section("Promise 6");
        bounds.says("Removes the last code.", "load " + FLAT + "; load " + PAIRED + "; units 04; page ab; drop() = 1; "
            + "about(0, 0) = 0; about(1, 0) = UNKNOWN; "
            + "ink(1, 0) = UNKNOWN; rank(*) = 0 UNKNOWN; count(*) = 1 2 40 1 1 2 2 2; unit(*) = 0 4");
        bounds.says("Returns how many codes are left;", FOUR + "drop() = 3; drop() = 2; drop() = 1; drop() = 0; count(0) = 0; "
            + "count(6) = 4");
        bounds.says("STATE if there are no codes.", "drop() = STATE", "load " + FLAT + "; drop() = 0; drop() = STATE; "
            + "count(0) = 0; load " + FLAT
            + "; about(0, 0) = 0");
    }

    private void ink() {
        bounds.section("Promise 7");
        bounds.says("Returns a character of the text of a code. code: the code", FOUR + "ink(*, 0) = 102 112 99 116 UNKNOWN");
        bounds.says("place: the index of the character, from 0", FOUR
            + "ink(0, *) = 102 97 97 97 97 98 98 98 98 49 50 51 52 UNKNOWN",
            FOUR + "ink(1, *) = 112 52 97 98 33 98 97 98 33 98 53 54 55 56 UNKNOWN",
            FOUR + "ink(2, *) = 99 97 98 99 100 101 102 43 33 57 56 55 54 UNKNOWN",
            FOUR + "ink(3, *) = 116 55 97 97 98 98 33 33 97 97 98 98 98 98 97 97 97 98 57 48 48 57 UNKNOWN");
        bounds.says("Returns the code of the character;", "load " + COUNTED + "; ink(0, 7) = 43; ink(0, 8) = 33; ink(0, 0) = 99");
        bounds.says("UNKNOWN if there is no such code, or its text has no such character.", "ink(0, 0) = UNKNOWN",
            "load " + FLAT + "; ink(1, 0) = UNKNOWN; "
            + "ink(-1, 0) = UNKNOWN; ink(LEAST, 0) = UNKNOWN; ink(MOST, 0) = UNKNOWN; ink(0, -1) = UNKNOWN; ink(0, 12) = 52; "
            + "ink(0, 13) = UNKNOWN; "
            + "ink(0, LEAST) = UNKNOWN; ink(0, MOST) = UNKNOWN; ink(1, 13) = UNKNOWN; drop() = 0; ink(0, 0) = UNKNOWN",
            "load " + PAIRED + "; ink(0, 13) = 56; ink(0, 14) = UNKNOWN", "load " + COUNTED + "; ink(0, 12) = 54; "
            + "ink(0, 13) = UNKNOWN",
            "load " + TURNED + "; ink(0, 21) = 57; ink(0, 22) = UNKNOWN", "load " + TURNED + "; drop() = 0; load " + FLAT + "; "
            + "ink(0, 13) = UNKNOWN");
    }

    private void open() {
        bounds.section("Promise 8");
        bounds.says("Sets the length of the stream, and removes all units that have come.",
            "load " + FLAT + "; units 0123; page ab; open(9) = 4; count(*) = 1 0 9 1 1 2 1 4; unit(0) = UNKNOWN; "
            + "about(0, 3) = 0; back() = STATE",
            "load faaaaaaa!0000; feed(7) = 1; about(0, 1) = 0; open(1) = 1; about(0, 1) = 1; about(0, 5) = NONE",
            "open(5) = 0; units 01234; feed(0) = FULL; open(5) = 5; feed(0) = 1; count(1) = 1");
        bounds.says("length: the new length, 1 to 40", "open(1) = 0; count(2) = 1; open(2) = 0; count(2) = 2; open(39) = 0; "
            + "count(2) = 39; open(40) = 0; "
            + "count(2) = 40");
        bounds.says("Returns how many units had come;", "open(40) = 0; feed(0) = 1; open(40) = 1; open(40) = 0; units "
            + FORTY + "; open(1) = 40; feed(0) = 1; "
            + "open(2) = 1; units 00; back() = 1; open(3) = 1");
        bounds.says("OUTSIDE if length is out of range.", "open(7) = 0; units 01; open(0) = OUTSIDE; open(41) = OUTSIDE; "
            + "open(-1) = OUTSIDE; open(LEAST) = OUTSIDE; "
            + "open(MOST) = OUTSIDE; count(2) = 7; count(1) = 2; unit(*) = 0 1");
    }

    private void feed() {
        bounds.section("Promise 9");
        bounds.says("Lets a unit come.", "load " + FLAT + "; feed(4) = 1; unit(0) = 4; about(0, 3) = 1; count(1) = 1; "
            + "count(7) = 1; feed(0) = 2; unit(*) = 4 0; "
            + "about(0, 4) = 3", "page 12; feed(3) = 1; count(5) = 2");
        bounds.says("unit: the unit, 0 to 7", "feed(0) = 1; feed(1) = 2; feed(2) = 3; feed(3) = 4; feed(4) = 5; feed(5) = 6; "
            + "feed(6) = 7; feed(7) = 8; "
            + "unit(*) = 0 1 2 3 4 5 6 7 UNKNOWN");
        bounds.says("Returns how many units have come then;", "feed(0) = 1; feed(0) = 2; back() = 1; feed(0) = 2; units "
            + "0".repeat(37) + "; feed(0) = 40");
        bounds.says("OUTSIDE if unit is out of range;", "feed(-1) = OUTSIDE; feed(8) = OUTSIDE; feed(LEAST) = OUTSIDE; "
            + "feed(MOST) = OUTSIDE; feed(48) = OUTSIDE; "
            + "count(1) = 0; count(7) = 0", "open(1) = 0; feed(7) = 1; feed(8) = OUTSIDE; feed(-1) = OUTSIDE; feed(7) = FULL");
        bounds.says("FULL if as many units as the length says have come already.", "open(1) = 0; feed(3) = 1; feed(3) = FULL; "
            + "feed(0) = FULL; count(1) = 1; "
            + "count(7) = 1; back() = 0; feed(5) = 1; unit(0) = 5; feed(5) = FULL", "open(2) = 0; feed(1) = 1; feed(1) = 2; "
            + "feed(1) = FULL; open(3) = 2; "
            + "units 11; feed(1) = 3; feed(1) = FULL", "units " + "0".repeat(39) + "; feed(7) = 40; feed(7) = FULL; "
            + "count(7) = 40");
    }

    private void feeds() {
        bounds.section("Promise 10");
        bounds.says("Lets all characters of the page come as units, in their order (possibly none). The page is empty then.",
            "load " + FLAT + "; page 0765; feeds() = 4; unit(*) = 0 7 6 5 UNKNOWN; count(5) = 0; count(7) = 4; "
            + "about(0, 3) = 4; page 12; feeds() = 6; "
            + "unit(*) = 0 7 6 5 1 2 UNKNOWN; blank() = 0", "feeds() = 0; count(*) = 0 0 40 0 0 0 0 0; feed(1) = 1; "
            + "feeds() = 1; count(7) = 1",
            "open(1) = 0; feed(0) = 1; feeds() = 1; count(1) = 1", "page " + FORTY + "; feeds() = 40; feeds() = 40; "
            + "count(5) = 0");
        bounds.says("Returns how many units have come then;", "page 0; feeds() = 1; page 00; feeds() = 3; back() = 2; page 0; "
            + "feeds() = 3; open(3) = 3; page 000; "
            + "feeds() = 3");
        bounds.says("STATE if a character of the page is not a digit from 0 to 7;", "page 8; feeds() = STATE; count(5) = 1",
            "page /; feeds() = STATE",
            "page 9; feeds() = STATE", "page 0128; feeds() = STATE; count(1) = 0; count(5) = 4; count(7) = 0",
            "page 8012; feeds() = STATE; count(1) = 0",
            "page 0a1; feeds() = STATE", "letter(32) = 1; feeds() = STATE", "letter(126) = 1; feeds() = STATE",
            "page 7; feeds() = 1", "page 0; feeds() = 1",
            "open(2) = 0; page 0008; feeds() = STATE; blank() = 4; page 000; feeds() = FULL",
            "open(1) = 0; feed(0) = 1; page 8; feeds() = STATE");
        bounds.says("FULL if more units would have come than the length says.", "open(3) = 0; page 0123; feeds() = FULL; "
            + "count(1) = 0; count(5) = 4; count(7) = 0; "
            + "open(4) = 0; feeds() = 4", "open(3) = 0; feed(0) = 1; page 12; feeds() = 3; page 0; feeds() = FULL; "
            + "count(1) = 3; back() = 2; feeds() = 3",
            "open(3) = 0; feed(0) = 1; page 123; feeds() = FULL; unit(*) = 0 UNKNOWN", "open(39) = 0; page " + FORTY + "; "
            + "feeds() = FULL; open(40) = 0; feeds() = 40; "
            + "page 0; feeds() = FULL", "open(1) = 0; page 1; feeds() = 1", "open(1) = 0; page 11; feeds() = FULL");
    }

    private void back() {
        bounds.section("Promise 11");
        bounds.says("Takes back the last unit that has come.", "load faaaa!bbb1234; units 054; about(0, 5) = 2; "
            + "about(0, 4) = 2; back() = 2; unit(*) = 0 5 UNKNOWN; "
            + "about(0, 5) = NONE; about(0, 4) = 2; back() = 1; about(0, 4) = 0; unit(*) = 0 UNKNOWN; feed(3) = 2; "
            + "unit(*) = 0 3 UNKNOWN; about(0, 4) = 1; count(7) = 4");
        bounds.says("Returns how many units are left;", "feed(0) = 1; back() = 0; count(1) = 0; units 00; back() = 1",
            "units " + FORTY + "; back() = 39; count(1) = 39; "
            + "feed(0) = 40");
        bounds.says("STATE if no unit has come.", "back() = STATE; feed(0) = 1; back() = 0; back() = STATE; count(1) = 0; "
            + "count(7) = 1",
            "units 00; open(5) = 2; back() = STATE", "page 00; back() = STATE; count(5) = 2");
    }

    private void unit() {
        bounds.section("Promise 12");
        bounds.says("Returns a unit that has come. place: its index, from 0 Returns the unit;",
            "units 76543210; unit(*) = 7 6 5 4 3 2 1 0 UNKNOWN",
            "units 1" + "0".repeat(38) + "2; unit(0) = 1; unit(1) = 0; unit(38) = 0; unit(39) = 2; unit(40) = UNKNOWN");
        bounds.says("UNKNOWN if there is no such unit.", "unit(0) = UNKNOWN; feed(5) = 1; unit(0) = 5; unit(1) = UNKNOWN; "
            + "unit(-1) = UNKNOWN; unit(LEAST) = UNKNOWN; "
            + "unit(MOST) = UNKNOWN; back() = 0; unit(0) = UNKNOWN", "units 567; back() = 2; unit(*) = 5 6 UNKNOWN; "
            + "open(3) = 2; unit(0) = UNKNOWN; feed(1) = 1; "
            + "unit(*) = 1 UNKNOWN");
    }
}
