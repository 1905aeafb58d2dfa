import java.io.IOException;
import java.nio.file.Files;
import java.nio.file.Path;
import java.util.List;

/** The example of README.md, with the answers that its comments tell. */
public final class ReadmeTest {
    private static final Due DUE = new Due("ReadmeTest");

    private static void exampleAnswersWhatItsCommentsSay() {
        GalleyDesk desk = new GalleyDesk();
        desk.pattern(0, 1, -1, 10);
        desk.measure(51, 51, 0);
        desk.put(3, 3, 10, 2);
        desk.put(0, 1, 2, 10);
        desk.put(3, 3, -1, -1);
        DUE.is("lines()", desk.lines(), 2);
        DUE.is("line(0, 1)", desk.line(0, 1), 5);
        DUE.is("line(0, 4)", desk.line(0, 4), 1);
        DUE.is("position(8)", desk.position(8), 26);
        DUE.is("demerits(0)", desk.demerits(0), 2700);
    }

    /** So that the README and this test can't go different ways. */
    private static void readmeHasTheseCallsAndAnswers() throws IOException {
        String readme = Files.readString(Path.of("README.md"));
        List<String> rows = List.of("pattern(0, 1, -1, 10);", "measure(51, 51, 0);", "put(3, 3, 10, 2);",
            "put(0, 1, 2, 10);", "put(3, 3, -1, -1);", "lines();               // 2:",
            "line(0, 1);           // 5:", "line(0, 4);       // 1:", "position(8);               // 26:",
            "demerits(0);            // 2700:");
        for (String row : rows) {
            DUE.yes("the README has " + row, readme.contains("desk." + row));
        }
    }

    public static void main(String[] args) throws IOException {
        exampleAnswersWhatItsCommentsSay();
        readmeHasTheseCallsAndAnswers();
        DUE.end();
    }
}
