/** Each promise on its own: ordinary inputs, the edges that the document names, and wrong inputs. */
public final class PromisesTest {
    private static final int NONE = -1, UNKNOWN = -101, OUTSIDE = -102, STATE = -103, FULL = -104;
    private static final int LEAST = Integer.MIN_VALUE, MOST = Integer.MAX_VALUE;

    private static final String FLAT = "faaaabbbb1234";
    private static final String PAIRED = "p4ab!bab!b5678";
    private static final String COUNTED = "cabcdef+!9876";
    private static final String TURNED = "t7aabb!!aabbbbaaab9009";
    private static final String ALL_A = "faaaaaaaa1000";
    private static final String NOTHING_ALLOWED = "f!!!!!!!!9999";

    private final Check check = new Check("PromisesTest");

    public static void main(String[] args) {
        PromisesTest test = new PromisesTest();
        test.promise1();
        test.promise2();
        test.promise3();
        test.promise4();
        test.promise5();
        test.promise6();
        test.promise7();
        test.promise8();
        test.promise9();
        test.promise10();
        test.promise11();
        test.promise12();
        test.promise13();
        test.promise13Longest();
        test.promise13Turned();
        test.promise13Sure();
        test.promise13SureTies();
        test.promise13Ranking();
        test.promise14();
        test.promise15();
        test.promise16();
        test.promise17();
        test.promise18();
        test.promise19And20();
        test.promise21();
        test.promise21Ties();
        test.promise22();
        test.promise23();
        test.promise24();
        test.errorsChangeNothing();
        test.mostCallsEnd();
        test.check.end();
    }

    private void due(String call, long got, long want) {
        check.due(call, got, want);
    }

    private static CodeJudge judge(String... texts) {
        return Check.judge(texts);
    }

    private static CodeJudge fed(String units, String... texts) {
        CodeJudge judge = judge(texts);
        Check.stream(judge, units);
        return judge;
    }

    private static CodeJudge typed(String text) {
        CodeJudge judge = new CodeJudge();
        Check.type(judge, text);
        return judge;
    }

    private void abouts(String what, CodeJudge judge, int code, int... wanted) {
        for (int i = 0; i < wanted.length; i++) {
            due(what + ": about(" + code + ", " + i + ")", judge.about(code, i), wanted[i]);
        }
    }

    private void promise1() {
        CodeJudge judge = new CodeJudge();
        int[] counts = {0, 0, 40, 0, 0, 0, 0, 0};
        for (int what = 0; what < 8; what++) {
            due("1: new: count(" + what + ")", judge.count(what), counts[what]);
        }
        due("1: new: blank()", judge.blank(), 0);
        due("1: new: fault()", judge.fault(), 0);
        due("1: new: unit(0)", judge.unit(0), UNKNOWN);
        due("1: new: judged()", judge.judged(), NONE);
        CodeJudge other = judge(FLAT);
        due("1: objects apart: count(0)", judge.count(0), 0);
        due("1: objects apart: other count(0)", other.count(0), 1);
    }

    private void promise2() {
        CodeJudge judge = new CodeJudge();
        due("2: letter(31)", judge.letter(31), OUTSIDE);
        due("2: letter(127)", judge.letter(127), OUTSIDE);
        due("2: letter(least)", judge.letter(LEAST), OUTSIDE);
        due("2: letter(most)", judge.letter(MOST), OUTSIDE);
        due("2: letter(32)", judge.letter(32), 1);
        due("2: letter(126)", judge.letter(126), 2);
        for (int i = 3; i <= 40; i++) {
            due("2: letter " + i, judge.letter(48), i);
        }
        due("2: letter 41", judge.letter(48), FULL);
        due("2: OUTSIDE before FULL", judge.letter(31), OUTSIDE);
        due("2: count(5)", judge.count(5), 40);
    }

    private void promise3() {
        CodeJudge judge = typed("abc");
        due("3: blank()", judge.blank(), 3);
        due("3: blank() again", judge.blank(), 0);
        due("3: letter()", judge.letter(65), 1);
        due("3: count(5)", judge.count(5), 1);
    }

    private void promise4() {
        String[] texts = {
            "", "f", "x", "F", " f", "fa", "fc", "f+", "f!", "f0", "faaaaaaaa", "faaaaaaaaa", "faaaaaaaa0", "faaaaaaaa/",
            "faaaaaaaa:", "faaaaaaaa0909", "faaaaaaaa09090", "faaaaaaaa0909a", "p", "p0", "p1", "p7", "p8", "pa", "p1c",
            "p1aaaaaaaa0000", "p1aaaaaaaa00000", "p1aaaaaaaaa", "t", "t0", "t7", "t8", "t/", "t0aaaaaaaa", "t0aaaaaaaa0",
            "t0aaaaaaaa!!!!!!!!", "t0aaaaaaaa!!!!!!!!a", "t0aaaaaaaa!!!!!!!!0000", "t0aaaaaaaa!!!!!!!!00000", "t0+",
            "c", "c0", "cabcdef+!", "cg", "c*", "cabcdef+!1234", "cabcdef+!12345", "cabcdef+!a", "xfaaaaaaaa0000",
        };
        int[] faults = {
            0, 1, 0, 0, 0, 2, 1, 1, 2, 1, 9, 9, 10, 9,
            9, 13, 13, 13, 1, 1, 2, 2, 1, 1, 2,
            14, 14, 10, 1, 2, 2, 1, 1, 10, 10,
            18, 18, 22, 22, 2,
            1, 1, 9, 1, 1, 13, 13, 9, 0,
        };
        for (int i = 0; i < texts.length; i++) {
            CodeJudge judge = typed(texts[i]);
            due("4: fault() of \"" + texts[i] + "\"", judge.fault(), faults[i]);
            due("4: page stays \"" + texts[i] + "\"", judge.count(5), texts[i].length());
        }
    }

    private void promise5() {
        String[] whole = {FLAT, PAIRED, COUNTED, TURNED};
        CodeJudge judge = new CodeJudge();
        for (int i = 0; i < whole.length; i++) {
            Check.type(judge, whole[i]);
            due("5: code() of " + whole[i], judge.code(), i);
            due("5: page empty", judge.count(5), 0);
            due("5: kind", judge.about(i, 0), i);
        }
        due("5: STATE before FULL", judge.code(), STATE);
        Check.type(judge, FLAT);
        due("5: fifth code", judge.code(), FULL);
        due("5: page stays", judge.count(5), 13);
        due("5: count(6)", judge.count(6), 4);
        judge.drop();
        due("5: again after drop()", judge.code(), 3);
        due("5: count(6) after it", judge.count(6), 5);
        String[] notWhole = {
            "", "f", "faaaaaaaa000", "faaaaaaaa00000", "paaaaaaaa0000", "p0aaaaaaaa0000", "p8aaaaaaaa0000",
            "t0aaaaaaaa0000", "t8aaaaaaaaaaaaaaaa0000", "faaaacaaa0000", "gaaaaaaaa0000", "p1aaaaaaaa000a", "cabcdefgh0000",
        };
        for (String text : notWhole) {
            CodeJudge other = typed(text);
            due("5: code() of \"" + text + "\"", other.code(), STATE);
            due("5: page stays", other.count(5), text.length());
            due("5: no code", other.count(0) + other.count(6), 0);
        }
        CodeJudge late = fed("0123");
        Check.type(late, FLAT);
        late.code();
        due("5: a late code reads all units", late.about(0, 3), 4);
    }

    private void promise6() {
        CodeJudge judge = judge(FLAT, PAIRED);
        due("6: drop()", judge.drop(), 1);
        due("6: the last one is gone", judge.about(1, 0), UNKNOWN);
        due("6: the first one stays", judge.about(0, 0), 0);
        due("6: drop()", judge.drop(), 0);
        due("6: drop()", judge.drop(), STATE);
        Check.type(judge, COUNTED);
        due("6: the number is given again", judge.code(), 0);
        due("6: as another code", judge.ink(0, 0), 'c');
    }

    private void promise7() {
        String[] texts = {FLAT, PAIRED, COUNTED, TURNED};
        CodeJudge judge = judge(texts);
        for (int code = 0; code < texts.length; code++) {
            for (int place = 0; place < texts[code].length(); place++) {
                due("7: ink(" + code + ", " + place + ")", judge.ink(code, place), texts[code].charAt(place));
            }
            due("7: ink(" + code + ", length)", judge.ink(code, texts[code].length()), UNKNOWN);
            due("7: ink(" + code + ", -1)", judge.ink(code, -1), UNKNOWN);
            due("7: ink(" + code + ", least)", judge.ink(code, LEAST), UNKNOWN);
            due("7: ink(" + code + ", most)", judge.ink(code, MOST), UNKNOWN);
        }
        due("7: ink(4, 0)", judge.ink(4, 0), UNKNOWN);
        due("7: ink(-1, 0)", judge.ink(-1, 0), UNKNOWN);
        due("7: ink of none", new CodeJudge().ink(0, 0), UNKNOWN);
        CodeJudge shorter = judge(TURNED);
        shorter.drop();
        Check.type(shorter, FLAT);
        shorter.code();
        due("7: nothing stays of a longer text", shorter.ink(0, 13), UNKNOWN);
    }

    private void promise8() {
        CodeJudge judge = fed("0123", FLAT);
        due("8: open(0)", judge.open(0), OUTSIDE);
        due("8: open(41)", judge.open(41), OUTSIDE);
        due("8: open(-1)", judge.open(-1), OUTSIDE);
        due("8: units stay", judge.count(1), 4);
        due("8: open(1)", judge.open(1), 4);
        due("8: units are gone", judge.count(1), 0);
        due("8: for the codes too", judge.about(0, 3), 0);
        due("8: length", judge.count(2), 1);
        due("8: feed()", judge.feed(0), 1);
        due("8: full", judge.feed(0), FULL);
        due("8: open(40)", judge.open(40), 1);
        due("8: length", judge.count(2), 40);
        due("8: codes stay", judge.count(0), 1);
        due("8: ever come", judge.count(7), 5);
        CodeJudge alive = fed("0", NOTHING_ALLOWED);
        due("8: not alive", alive.about(0, 1), 0);
        alive.open(3);
        due("8: alive again", alive.about(0, 1), 1);
    }

    private void promise9() {
        CodeJudge judge = new CodeJudge();
        judge.open(2);
        due("9: feed(-1)", judge.feed(-1), OUTSIDE);
        due("9: feed(8)", judge.feed(8), OUTSIDE);
        due("9: feed(7)", judge.feed(7), 1);
        due("9: feed(0)", judge.feed(0), 2);
        due("9: feed(1)", judge.feed(1), FULL);
        due("9: OUTSIDE before FULL", judge.feed(8), OUTSIDE);
        due("9: unit(0)", judge.unit(0), 7);
        due("9: unit(1)", judge.unit(1), 0);
        judge.open(40);
        for (int i = 1; i <= 40; i++) {
            due("9: feed " + i, judge.feed(i % 8), i);
        }
        due("9: feed 41", judge.feed(0), FULL);
    }

    private void promise10() {
        CodeJudge judge = new CodeJudge();
        judge.open(5);
        due("10: feeds() of nothing", judge.feeds(), 0);
        Check.type(judge, "075");
        due("10: feeds()", judge.feeds(), 3);
        due("10: page is empty", judge.count(5), 0);
        due("10: unit(0)", judge.unit(0), 0);
        due("10: unit(1)", judge.unit(1), 7);
        due("10: unit(2)", judge.unit(2), 5);
        for (String text : new String[] {"8", "/", "00a", "0 0", "9999"}) {
            judge.blank();
            Check.type(judge, text);
            due("10: feeds() of \"" + text + "\"", judge.feeds(), STATE);
            due("10: page stays", judge.count(5), text.length());
        }
        judge.blank();
        Check.type(judge, "123");
        due("10: one too many", judge.feeds(), FULL);
        due("10: no unit comes", judge.count(1), 3);
        due("10: page stays", judge.count(5), 3);
        judge.blank();
        Check.type(judge, "12");
        due("10: just as many", judge.feeds(), 5);
        due("10: nothing at the end", judge.feeds(), 5);
        due("10: ever come", judge.count(7), 5);
        CodeJudge read = fed("0404", FLAT);
        due("10: codes read them", read.about(0, 3), 4);
    }

    private void promise11() {
        CodeJudge judge = fed("04", FLAT, NOTHING_ALLOWED);
        due("11: weight", judge.about(0, 4), 2);
        due("11: back()", judge.back(), 1);
        due("11: weight", judge.about(0, 4), 0);
        due("11: unit(1)", judge.unit(1), UNKNOWN);
        due("11: still not alive", judge.about(1, 1), 0);
        due("11: back()", judge.back(), 0);
        due("11: alive again", judge.about(1, 1), 1);
        due("11: back()", judge.back(), STATE);
        due("11: ever come", judge.count(7), 2);
    }

    private void promise12() {
        CodeJudge judge = fed("70");
        due("12: unit(0)", judge.unit(0), 7);
        due("12: unit(1)", judge.unit(1), 0);
        due("12: unit(2)", judge.unit(2), UNKNOWN);
        due("12: unit(-1)", judge.unit(-1), UNKNOWN);
        due("12: unit(most)", judge.unit(MOST), UNKNOWN);
        judge.open(40);
        due("12: unit(0) after open", judge.unit(0), UNKNOWN);
    }

    private void promise13() {
        CodeJudge none = judge(FLAT);
        due("13: about(1, 0)", none.about(1, 0), UNKNOWN);
        due("13: about(-1, 0)", none.about(-1, 0), UNKNOWN);
        due("13: UNKNOWN before OUTSIDE", none.about(1, 8), UNKNOWN);
        due("13: about(0, 8)", none.about(0, 8), OUTSIDE);
        due("13: about(0, -1)", none.about(0, -1), OUTSIDE);
        abouts("13: no units", none, 0, 0, 1, 1, 0, 0, NONE, 0, 0);
        abouts("13: flat AABB", fed("0045", FLAT), 0, 0, 1, 1, 4, 1 + 2 + 4, NONE, 0, 0);
        // 4 to 7 begin signs whatever their marks; 2 is forbidden alone, and 6 as an end
        abouts("13: paired", fed("0416", PAIRED), 0, 1, 1, 0, 2, 6, NONE, 0, 0);
        abouts("13: paired, ended", fed("04161", PAIRED), 0, 1, 1, 1, 3, 6 + 8, NONE, 0, 0);
        abouts("13: paired, second of any number", fed("4567", PAIRED), 0, 1, 1, 1, 2, 8, NONE, 0, 0);
        abouts("13: paired, forbidden alone", fed("02", PAIRED), 0, 1, 0, 0, 1, 0, 1, 0, 0);
        abouts("13: paired, forbidden as second", fed("66", PAIRED), 0, 1, 0, 0, 0, 0, 1, 0, 0);
        // signs: 0 = A, 1 = B, 26 = A, 36 = B, 466 = A, 566 = B
        abouts("13: counted", fed("0126", COUNTED), 0, 2, 1, 1, 3, 8 + 7, NONE, 0, 0);
        abouts("13: counted, all", fed("012636466566", COUNTED), 0, 2, 1, 1, 6, 8 + 7 + 8 + 7 + 8, NONE, 0, 0);
        abouts("13: counted, one wanted", fed("03", COUNTED), 0, 2, 1, 0, 1, 0, NONE, 0, 0);
        abouts("13: counted, two wanted", fed("046", COUNTED), 0, 2, 1, 0, 1, 0, NONE, 0, 0);
        abouts("13: counted, + at the beginning", fed("06", COUNTED), 0, 2, 0, 0, 1, 0, 1, 0, 0);
        abouts("13: counted, ! at the beginning", fed("7", COUNTED), 0, 2, 0, 0, 0, 0, 0, 0, 0);
        abouts("13: counted, no + where wanted", fed("0460", COUNTED), 0, 2, 0, 0, 1, 0, 3, 0, 0);
    }

    private void promise13Longest() {
        abouts("13: forty units", fed("0".repeat(40), FLAT), 0, 0, 1, 1, 40, 39, NONE, 0, 0);
        // after N zeros the paired code leads by 4 (N - 1); of 44 44 .. the flat one gains 1, then 3 with each two units:
        // at 10 that is 1 + 14 * 3 against 36, at 11 no more than 40 against 40, which the lower number wins
        abouts("13: the fortieth begins a sign", fed("0".repeat(39) + "6", PAIRED, FLAT), 0, 1, 1, 0, 39, 38 * 5, NONE, 11, 1);
        abouts("13: the fortieth is forbidden", fed("0".repeat(39) + "2", PAIRED), 0, 1, 0, 0, 39, 38 * 5, 39, 0, 0);
    }

    private void promise13Turned() {
        // straight: 0 1 6 are A, 2 3 B, 4 5 forbidden; turned over: 0 to 3 are B, 4 5 6 A
        abouts("13: turned", fed("02", TURNED), 0, 3, 1, 1, 2, 0, NONE, 0, 0);
        abouts("13: turned over at the end", fed("07", TURNED), 0, 3, 1, 0, 1, 0, NONE, 0, 0);
        abouts("13: turned and back", fed("0770", TURNED), 0, 3, 1, 1, 2, 9, NONE, 0, 0);
        abouts("13: forbidden while straight", fed("04", TURNED), 0, 3, 0, 0, 1, 0, 1, 0, 0);
        abouts("13: allowed while turned over", fed("744", TURNED), 0, 3, 1, 0, 2, 9, NONE, 0, 0);
        String turns = "t0!aaaaaaa!bbbbbb!1248";
        abouts("13: q whatever its mark", fed("00", turns), 0, 3, 1, 1, 0, 0, NONE, 0, 0);
        abouts("13: signs follow over q", fed("1020", turns), 0, 3, 1, 1, 2, 2, NONE, 0, 0);
        abouts("13: sorts of both rows of marks", fed("101010", turns), 0, 3, 1, 0, 3, 2 + 4, NONE, 0, 0);
        abouts("13: second marks forbid", fed("107", turns), 0, 3, 0, 0, 1, 0, 2, 0, 0);
        abouts("13: units behind the bad one do not count", fed("10711111", turns), 0, 3, 0, 0, 1, 0, 2, 0, 0);
    }

    private void promise13Sure() {
        due("13: one code is sure at once", judge(FLAT).about(0, 6), 0);
        due("13: no row is valid", judge(NOTHING_ALLOWED).about(0, 6), NONE);
        due("13: sure before it died", fed("7", "faaaaaaa!0000").about(0, 6), 0);
        CodeJudge evenOnly = judge("p1!aaaaaaa0000");
        evenOnly.open(3);
        due("13: no row of three", evenOnly.about(0, 6), NONE);
        evenOnly.open(4);
        due("13: rows of four", evenOnly.about(0, 6), 0);
        // the one code reads even units alone, the other all: it is sure only when the first has gone
        CodeJudge lower = judge("fa!a!a!a!9999", "faaaaaaaa0000");
        lower.open(3);
        due("13: preferred in each of its rows", lower.about(0, 6), 0);
        due("13: not yet", lower.about(1, 6), NONE);
        lower.feed(0);
        due("13: not yet", lower.about(1, 6), NONE);
        lower.feed(1);
        due("13: the rival is gone", lower.about(1, 6), 2);
        due("13: sure while it lived", lower.about(0, 6), 0);
        lower.back();
        due("13: not any more", lower.about(1, 6), NONE);
        // a sign that was begun cannot end when the stream does
        CodeJudge begun = judge("p4aaaaaaaa9999", "faaaaaaaa1111");
        begun.open(2);
        begun.feed(0);
        due("13: both can be valid", begun.about(1, 6), NONE);
        begun.feed(4);
        due("13: the rival is open at the end", begun.about(1, 6), 2);
        // at 0 the row 40 was still possible, one sign for the one code and a pair for the other
        due("13: an open sign is no valid row", begun.about(0, 6), 1);
        // one unit alone is allowed, the first or the last
        for (String marks : new String[] {"a!!!!!!!", "!!!!!!!a"}) {
            CodeJudge narrow = judge("faaaaaaaa0000", "f" + marks + "9000");
            narrow.open(3);
            due("13: one row stands against it", narrow.about(0, 6), NONE);
            due("13: its one row", narrow.about(1, 6), 0);
        }
        // rows without any sign
        CodeJudge signless = judge("t0!!!!!!!!!!!!!!!!0000", "faaaaaaaa5000", "faaaaaaaa0000");
        signless.open(2);
        due("13: no sign, less weight", signless.about(0, 6), NONE);
        due("13: more weight than no sign", signless.about(1, 6), 0);
        signless.open(1);
        due("13: no row of one", signless.about(0, 6), NONE);
        CodeJudge signlessTie = judge("t0!!!!!!!!!!!!!!!!0000", "faaaaaaaa0000");
        signlessTie.open(2);
        due("13: no sign, as much weight", signlessTie.about(0, 6), 0);
        due("13: as much weight as no sign", signlessTie.about(1, 6), NONE);
    }

    private void promise13SureTies() {
        String low = "faaaabbbb9000";
        String high = "fbbbbaaaa9000";
        // after N of 40 units that pay the one, the other can get 39 - N pairs at most; the lower wins ties
        for (int count = 19; count <= 23; count++) {
            CodeJudge zeros = fed("0".repeat(count), low, high);
            due("13: lower after " + count, zeros.about(0, 6), count >= 20 ? 20 : NONE);
            due("13: higher after " + count, zeros.about(1, 6), NONE);
            CodeJudge fours = fed("4".repeat(count), low, high);
            due("13: higher after " + count + " for it", fours.about(1, 6), count >= 21 ? 21 : NONE);
            due("13: lower after " + count + " against it", fours.about(0, 6), NONE);
        }
        CodeJudge same = judge(FLAT, FLAT);
        due("13: the same code, lower", same.about(0, 6), 0);
        due("13: the same code, higher", same.about(1, 6), NONE);
        CodeJudge three = fed("000", "faaaaaaaa1000", "faaaaaaaa3000", "faaaaaaaa2000");
        due("13: three, first", three.about(0, 6), NONE);
        due("13: three, second", three.about(1, 6), 0);
        due("13: three, third", three.about(2, 6), NONE);
    }

    private void promise13Ranking() {
        // valid with 2, valid with 3, alive with 9 * 2, not alive with 9 * 3
        CodeJudge judge = fed("0007", ALL_A, "faaaaaaaa2000", "p7aaaaaaaa9000", "faaaaaaa!9000");
        int[] places = {1, 0, 2, 3};
        for (int code = 0; code < 4; code++) {
            due("13: place of " + code, judge.about(code, 7), places[code]);
        }
        CodeJudge equal = fed("00", ALL_A, ALL_A, ALL_A);
        for (int code = 0; code < 3; code++) {
            due("13: lower number first", equal.about(code, 7), code);
        }
    }

    private void promise14() {
        CodeJudge judge = judge(FLAT, PAIRED, COUNTED, TURNED);
        int[][] points = {{1, 2, 3, 4}, {5, 6, 7, 8}, {9, 8, 7, 6}, {9, 0, 0, 9}};
        for (int code = 0; code < 4; code++) {
            for (int sorts = 0; sorts < 4; sorts++) {
                due("14: points(" + code + ", " + sorts + ")", judge.points(code, sorts), points[code][sorts]);
            }
            due("14: points(" + code + ", 4)", judge.points(code, 4), OUTSIDE);
            due("14: points(" + code + ", -1)", judge.points(code, -1), OUTSIDE);
        }
        due("14: points(4, 0)", judge.points(4, 0), UNKNOWN);
        due("14: UNKNOWN before OUTSIDE", judge.points(-1, 4), UNKNOWN);
    }

    private void promise15() {
        // A A A B B A B A A
        CodeJudge judge = fed("000440400", FLAT, "faaaa!bbb1111");
        int[] counts = {3, 2, 2, 1};
        int[] before = {2, 0, 0, 0};
        for (int sorts = 0; sorts < 4; sorts++) {
            due("15: pairs(0, " + sorts + ")", judge.pairs(0, sorts), counts[sorts]);
            due("15: pairs(1, " + sorts + ")", judge.pairs(1, sorts), before[sorts]);
        }
        due("15: pairs(0, 4)", judge.pairs(0, 4), OUTSIDE);
        due("15: pairs(0, -1)", judge.pairs(0, -1), OUTSIDE);
        due("15: pairs(2, 0)", judge.pairs(2, 0), UNKNOWN);
        due("15: UNKNOWN before OUTSIDE", judge.pairs(2, 4), UNKNOWN);
        CodeJudge open = fed("0126", COUNTED);
        due("15: an ended sign counts", open.pairs(0, 2), 1);
        open.back();
        due("15: a begun sign does not", open.pairs(0, 2), 0);
        due("15: what was before it does", open.pairs(0, 1), 1);
    }

    private void promise16() {
        due("16: no code", new CodeJudge().judged(), NONE);
        due("16: no unit", judge(FLAT, PAIRED).judged(), 0);
        due("16: greatest weight", fed("000", ALL_A, "faaaaaaaa3000", "faaaaaaaa2000").judged(), 1);
        due("16: lowest of several", fed("000", NOTHING_ALLOWED, ALL_A, ALL_A).judged(), 1);
        due("16: none is valid", fed("7", NOTHING_ALLOWED, "p7aaaaaaaa9999", "t7aaaaaaaaaaaaaaaa9999").judged(), NONE);
        due("16: valid before heavier", fed("0007", "p7aaaaaaaa9000", "faaaaaaaa0000").judged(), 1);
    }

    private void promise17() {
        CodeJudge judge = fed("0007", ALL_A, "faaaaaaaa2000", "p7aaaaaaaa9000", "faaaaaaa!9000");
        int[] order = {1, 0, 2, 3};
        for (int place = 0; place < 4; place++) {
            due("17: rank(" + place + ")", judge.rank(place), order[place]);
        }
        due("17: rank(4)", judge.rank(4), UNKNOWN);
        due("17: rank(-1)", judge.rank(-1), UNKNOWN);
        due("17: rank(most)", judge.rank(MOST), UNKNOWN);
        judge.drop();
        due("17: rank(3) after drop()", judge.rank(3), UNKNOWN);
        CodeJudge dead = fed("01", "fa!aaaaaa0000", "f!aaaaaaa9999", "faaaaaaaa0000");
        due("17: not alive, equal weight: lower number", dead.rank(1), 0);
        due("17: not alive, last", dead.rank(2), 1);
    }

    private void promise18() {
        CodeJudge judge = judge("faaaaaaaa0000", NOTHING_ALLOWED, "p7aaaaaaa!0000", "c++aacdef0000");
        int power = 1;
        for (int n = 0; n <= 9; n++, power *= 8) {
            due("18: all rows of " + n, judge.rows(0, n), power);
            due("18: no rows of " + n, judge.rows(1, n), n == 0 ? 1 : 0);
        }
        // one unit: 0 to 6; two more for 7 and 0 to 6: r(n) = 7 r(n - 1) + 7 r(n - 2)
        int[] paired = {1, 7, 56, 441, 3479};
        // r(n) = 2 r(n - 1) + 2 * 2 r(n - 2) + 2 * 4 r(n - 3)
        int[] counted = {1, 2, 8, 32, 112};
        for (int n = 0; n < paired.length; n++) {
            due("18: paired rows of " + n, judge.rows(2, n), paired[n]);
            due("18: counted rows of " + n, judge.rows(3, n), counted[n]);
        }
        // straight or over: s(n) = 7 s(n - 1) + o(n - 1), o(n) = 0 o(n - 1) + s(n - 1)
        CodeJudge turned = judge("t0!aaaaaaa!!!!!!!!0000");
        int[] rows = {1, 7, 50, 357, 2549};
        for (int n = 0; n < rows.length; n++) {
            due("18: turned rows of " + n, turned.rows(0, n), rows[n]);
        }
        due("18: rows(0, 10)", judge.rows(0, 10), OUTSIDE);
        due("18: rows(0, -1)", judge.rows(0, -1), OUTSIDE);
        due("18: rows(4, 0)", judge.rows(4, 0), UNKNOWN);
        due("18: UNKNOWN before OUTSIDE", judge.rows(-1, 10), UNKNOWN);
        CodeJudge units = fed("777", FLAT);
        due("18: units that have come do not matter", units.rows(0, 1), 8);
    }

    private void parting(String what, String one, String other, String row) {
        CodeJudge judge = judge(one, other);
        due("19: " + what, judge.apart(0, 1), row == null ? NONE : row.length());
        int size = row == null ? 0 : row.length();
        for (int place = 0; place < size; place++) {
            due("20: " + what + " at " + place, judge.tells(0, 1, place), row.charAt(place) - '0');
        }
        due("20: " + what + " behind it", judge.tells(0, 1, size), UNKNOWN);
        due("20: " + what + " before it", judge.tells(0, 1, -1), UNKNOWN);
        due("20: " + what + " at most", judge.tells(0, 1, MOST), UNKNOWN);
        due("20: " + what + " at least", judge.tells(0, 1, LEAST), UNKNOWN);
    }

    private void promise19And20() {
        parting("all and all", "faaaaaaaa0000", "fbbbbbbbb9999", null);
        parting("all and but one", "faaaaaaaa0000", "faaaaa!aa0000", "5");
        parting("but one and all", "faaaaa!aa0000", "faaaaaaaa0000", null);
        parting("first of several", "faaaaaaaa0000", "faa!a!aaa0000", "2");
        parting("begun signs", "faaaaaaaa0000", "p3aaaaaaaa0000", "3");
        parting("two units", "p3aaaaaaaa0000", "faaaaaa!a0000", "36");
        parting("two units, begun by the first that may", "p7!!!!!!!a0000", "faaaaaaaa0000", null);
        parting("turned", "faaaaaaaa0000", "t4aaaaaaaaaaaaaaaa0000", "4");
        parting("turned over in between", "faaaaaaaa0000", "t0aaaaaaaaaaaaaaaa0000", "0");
        parting("three units", "ce++!!!!!0000", "c!++!!!!!0000", "011");
        parting("three units against two", "ce++!!!!!0000", "cc++!!!!!0000", "011");
        parting("only an open end tells", "cc+!!!!!!0000", "t1aaaaaaaaaaaaaaaa0000", "01");
        parting("turns and back", "t0!a!!!!!!!b!!!!!!0000", "fa!!!!!!!0000", "1");
        parting("over and back with a sign between", "t0!!!!!!!!!b!!!!!!0000", "fa!!!!!!!0000", "010");
        CodeJudge judge = judge(FLAT);
        due("19: the same code", judge.apart(0, 0), NONE);
        due("20: the same code", judge.tells(0, 0, 0), UNKNOWN);
        due("19: apart(0, 1)", judge.apart(0, 1), UNKNOWN);
        due("19: apart(1, 0)", judge.apart(1, 0), UNKNOWN);
        due("19: apart(-1, 0)", judge.apart(-1, 0), UNKNOWN);
        due("20: tells(0, 1, 0)", judge.tells(0, 1, 0), UNKNOWN);
        due("20: tells(1, 0, 0)", judge.tells(1, 0, 0), UNKNOWN);
        CodeJudge dropped = judge(ALL_A, NOTHING_ALLOWED);
        due("19: both there", dropped.apart(0, 1), 1);
        dropped.drop();
        due("19: the other dropped", dropped.apart(0, 1), UNKNOWN);
        due("20: the other dropped", dropped.tells(0, 1, 0), UNKNOWN);
        CodeJudge first = judge(NOTHING_ALLOWED, ALL_A);
        first.drop();
        due("20: the first dropped", first.tells(1, 0, 0), UNKNOWN);
    }

    private void pieces(String what, CodeJudge judge, int worth, int[]... pieces) {
        due("21: " + what + ": worth", judge.cuts(0), worth);
        due("21: " + what + ": pieces", judge.cuts(1), pieces.length);
        for (int i = 0; i < pieces.length; i++) {
            for (int j = 0; j < 3; j++) {
                due("22: " + what + ": piece(" + i + ", " + j + ")", judge.piece(i, j), pieces[i][j]);
            }
        }
        due("22: " + what + ": behind the last", judge.piece(pieces.length, 0), UNKNOWN);
    }

    private void promise21() {
        due("21: cuts(2)", new CodeJudge().cuts(2), OUTSIDE);
        due("21: cuts(-1)", new CodeJudge().cuts(-1), OUTSIDE);
        pieces("nothing", new CodeJudge(), 0);
        pieces("no units", judge(FLAT), 0);
        CodeJudge none = fed("00", NOTHING_ALLOWED);
        due("21: no division: worth", none.cuts(0), STATE);
        due("21: no division: pieces", none.cuts(1), STATE);
        due("21: OUTSIDE before STATE", none.cuts(2), OUTSIDE);
        due("21: units without codes", fed("0").cuts(0), STATE);
        pieces("one piece", fed("0045", FLAT), 7, new int[] {4, 0, 7});
        String left = "faaaa!!!!9000";
        String right = "f!!!!aaaa9000";
        pieces("two pieces", fed("00044", left, right), 18 + 9 - 7, new int[] {3, 0, 18}, new int[] {5, 1, 9});
        pieces("a loss, but the only one", fed("040", left, right), -14,
            new int[] {1, 0, 0}, new int[] {2, 1, 0}, new int[] {3, 0, 0});
        // a cut between two signs costs their points too, so cutting pays only for 8 or more by another code
        String plain = "faaaaaaaa1000";
        pieces("cut pays", fed("0000444", plain, right), 3 + 18 - 7, new int[] {4, 0, 3}, new int[] {7, 1, 18});
        pieces("cut does not pay", fed("000044", plain, right), 5, new int[] {6, 0, 5});
        CodeJudge open = fed("40", "p4aaaaaaaa9999");
        pieces("a sign is not cut", open, 0, new int[] {2, 0, 0});
        open.feed(4);
        due("21: nothing ends the last sign", open.cuts(0), STATE);
        due("22: nothing ends the last sign", open.piece(0, 0), UNKNOWN);
    }

    private void promise21Ties() {
        pieces("lower code", fed("00", "f!aaaaaaa9000", ALL_A, ALL_A), 1, new int[] {2, 1, 1});
        // 7 points lost by the pair, or by the cut: fewer pieces win
        pieces("fewest pieces", fed("000000", "faaaaaaaa0000", "faaaaaaaa7000"), 35, new int[] {6, 1, 35});
        String first = "faaa!!!!!0000";
        String last = "f!aaa!!!!0000";
        pieces("earlier end", fed("0113", first, last), -7, new int[] {1, 0, 0}, new int[] {4, 1, 0});
        // both divide 0 1 3 after the 0 or after the 1
        pieces("earlier end of two", fed("013", last, first), -7, new int[] {1, 1, 0}, new int[] {3, 0, 0});
        pieces("earlier end before lower code", fed("013", "cc+!!!!!!0000", "fa!!!!!!!0000", "f!a!a!!!!0000"), -7,
            new int[] {1, 1, 0}, new int[] {3, 2, 0});
        pieces("lower code at the same end", fed("07", "faaaaaaa!0000", "faaa!!!!!0000", "f!!!!!!!a0000"), -7,
            new int[] {1, 0, 0}, new int[] {2, 2, 0});
        String zeroOne = "faa!!!!!!0700";
        String oneTwo = "f!bb!!!!!0000";
        pieces("greater worth before fewer pieces", fed("0000", "faaaaaaaa0000", "p1!!aaaaaa9999"), 0, new int[] {4, 0, 0});
        pieces("middle may go to both", fed("0112", zeroOne, oneTwo), -7, new int[] {1, 0, 0}, new int[] {4, 1, 0});
    }

    private void promise22() {
        CodeJudge judge = fed("0044", "faaaa!!!!9000", "f!!!!aaaa9000");
        pieces("two", judge, 11, new int[] {2, 0, 9}, new int[] {4, 1, 9});
        due("22: piece(2, 0)", judge.piece(2, 0), UNKNOWN);
        due("22: piece(-1, 0)", judge.piece(-1, 0), UNKNOWN);
        due("22: UNKNOWN before OUTSIDE", judge.piece(2, 3), UNKNOWN);
        due("22: piece(0, 3)", judge.piece(0, 3), OUTSIDE);
        due("22: piece(0, -1)", judge.piece(0, -1), OUTSIDE);
        due("22: no pieces", new CodeJudge().piece(0, 0), UNKNOWN);
        due("22: no division", fed("0").piece(0, 3), UNKNOWN);
        CodeJudge longest = fed("04".repeat(20), "faaaa!!!!9000", "f!!!!aaaa9000");
        due("22: forty pieces", longest.cuts(1), 40);
        due("22: worth of forty", longest.cuts(0), -7 * 39);
        due("22: last of forty", longest.piece(39, 0), 40);
        due("22: behind forty", longest.piece(40, 0), UNKNOWN);
        due("22: a piece begins straight", fed("70", "t7aaaaaaaabbbbbbbb0000").cuts(0), STATE);
    }

    private void counts(String what, CodeJudge judge, int... counts) {
        for (int i = 0; i < counts.length; i++) {
            due("23: " + what + ": count(" + i + ")", judge.count(i), counts[i]);
        }
    }

    private void promise23() {
        CodeJudge judge = judge(FLAT, "p7aaaaaaaa0000", NOTHING_ALLOWED);
        judge.open(9);
        counts("before units", judge, 3, 0, 9, 3, 3, 0, 3, 0);
        Check.stream(judge, "07");
        counts("after feeds()", judge, 3, 2, 9, 2, 1, 0, 3, 2);
        judge.back();
        judge.feed(1);
        judge.letter(65);
        counts("after back(), feed()", judge, 3, 2, 9, 2, 2, 1, 3, 3);
        judge.drop();
        judge.open(4);
        counts("after drop(), open()", judge, 2, 0, 4, 2, 2, 1, 3, 3);
        due("23: count(8)", judge.count(8), OUTSIDE);
        due("23: count(-1)", judge.count(-1), OUTSIDE);
    }

    private void promise24() {
        due("24: new", new CodeJudge().digest(), Listed.digest(new CodeJudge(), ""));
        CodeJudge judge = fed("0404411", FLAT, PAIRED, COUNTED, TURNED);
        Check.type(judge, "page");
        due("24: four codes", judge.digest(), Listed.digest(judge, "page"));
        due("24: the same again", judge.digest(), Listed.digest(judge, "page"));
        CodeJudge none = fed("12", NOTHING_ALLOWED);
        due("24: no division", none.digest(), Listed.digest(none, ""));
        CodeJudge pieces = fed("0044", "faaaa!!!!9000", "f!!!!aaaa9000");
        due("24: two pieces", pieces.digest(), Listed.digest(pieces, ""));
    }

    private void errorsChangeNothing() {
        CodeJudge judge = fed("0404411", FLAT, PAIRED, COUNTED, TURNED);
        judge.open(3);
        Check.stream(judge, "041");
        Check.type(judge, FLAT);
        String[] calls = {"code", "feeds", "letter", "letter", "open", "open", "feed", "feed", "ink", "unit",
            "about", "points", "pairs", "rank", "rows", "apart", "tells", "cuts", "piece", "count"};
        int[][] numbers = {{}, {}, {31}, {127}, {0}, {41}, {8}, {0}, {4, 0}, {3},
            {0, 8}, {0, 4}, {0, 4}, {4}, {0, 10}, {4, 0}, {0, 0, 0}, {2}, {99, 0}, {8}};
        long before = judge.digest();
        for (int i = 0; i < calls.length; i++) {
            long answer = Calls.answer(judge, calls[i], numbers[i]);
            check.holds(calls[i] + " is an error", answer <= UNKNOWN);
            due("digest() after the error of " + calls[i], judge.digest(), before);
        }
        CodeJudge empty = new CodeJudge();
        before = empty.digest();
        for (String call : new String[] {"code", "drop", "back"}) {
            due(call + "() of a new one", Calls.answer(empty, call), STATE);
            due("digest() after the error of " + call, empty.digest(), before);
        }
        CodeJudge page = typed("0".repeat(40));
        before = page.digest();
        due("letter() of a full page", page.letter(48), FULL);
        due("digest() after it", page.digest(), before);
        page.open(39);
        before = page.digest();
        due("feeds() of one too many", page.feeds(), FULL);
        due("digest() after it", page.digest(), before);
        check.holds("digest() tells states apart", fed("0", FLAT).digest() != fed("1", FLAT).digest());
    }

    /** The dearest call, as often as an object may be used. */
    private void mostCallsEnd() {
        CodeJudge judge = judge("c+abcdef+1234", "c++bcdefa4321", "cbc+def++9090", "cef++abcd0909");
        long first = judge.digest();
        for (int i = 60; i < 512; i++) {
            due("digest() call " + i, judge.digest(), first);
        }
    }
}
