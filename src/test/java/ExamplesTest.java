import java.io.IOException;
import java.nio.file.Files;
import java.nio.file.Path;
import java.util.List;
import java.util.regex.MatchResult;
import java.util.regex.Pattern;
import java.util.stream.Collectors;

/** The document's four examples, each call with the answer that stands behind it. */
public final class ExamplesTest {
    private static final String[] EXAMPLES = {
        "letter(102) = 1; letter(97) = 2; letter(97) = 3; letter(97) = 4; letter(97) = 5; letter(98) = 6; "
            + "letter(98) = 7; letter(98) = 8; letter(98) = 9; letter(49) = 10; letter(50) = 11; letter(48) = 12; "
            + "letter(48) = 13; code() = 0; feed(0) = 1; feed(4) = 2",
        "letter(112) = 1; letter(51) = 2; letter(97) = 3; letter(57) = 4; fault() = 3; blank() = 4; letter(48) = 1; "
            + "letter(53) = 2; letter(55) = 3; feeds() = 3; cuts(0) = -103; judged() = -1; open(2) = 3; "
            + "feed(8) = -102; feed(1) = 1; feed(1) = 2",
        "letter(120) = 1; fault() = 0; code() = -103; drop() = -103; rank(0) = -101; count(2) = 40; cuts(0) = 0; "
            + "cuts(1) = 0; piece(0, 0) = -101; back() = -103; feed(3) = 1; cuts(1) = -103; apart(0, 0) = -101; "
            + "about(0, 0) = -101; open(41) = -102; digest() = 1501255237244541744",
        "letter(102) = 1; letter(97) = 2; letter(97) = 3; letter(98) = 4; letter(98) = 5; letter(33) = 6; "
            + "letter(33) = 7; letter(97) = 8; letter(97) = 9; fault() = 9; letter(48) = 10; letter(48) = 11; "
            + "letter(57) = 12; letter(57) = 13; code() = 0; rows(0, 2) = 36",
    };

    public static void main(String[] args) throws IOException {
        Check check = new Check("ExamplesTest");
        for (int i = 0; i < EXAMPLES.length; i++) {
            Script.play(check, "example " + (i + 1), EXAMPLES[i]);
        }
        check.holds("these are the document's examples", inDocument().equals(List.of(EXAMPLES)));
        check.end();
    }

    private static List<String> inDocument() throws IOException {
        String document = Files.readString(Path.of("../shared/DOC.md"));
        return Pattern.compile("(?m)^\\d+\\. [^:]*: (.*)\\.$").matcher(document).results()
            .map((MatchResult example) -> example.group(1)).collect(Collectors.toList());
    }
}
