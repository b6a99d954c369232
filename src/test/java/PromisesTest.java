import java.io.IOException;
import java.nio.charset.StandardCharsets;
import java.nio.file.Files;
import java.nio.file.Path;
import java.util.regex.Matcher;
import java.util.regex.Pattern;

/** Every promise and section of the document has scripts of its own, every refusal that a promise names is asked for. */
public final class PromisesTest {
    public static void main(String[] args) throws IOException {
        CellBoundariesTest.main(args);
        TextBoundariesTest.main(args);
        AskBoundariesTest.main(args);
        KeptBoundariesTest.main(args);
        TaskBoundariesTest.main(args);
        ChangeBoundariesTest.main(args);
        String document = Files.readString(Path.of("../shared/DOC.md"), StandardCharsets.UTF_8);
        Matcher promise = Pattern.compile("## Promise (\\d+): (.+)\n\n`.*`: (.*)").matcher(document);
        int promises = 0;
        while (promise.find()) {
            promises++;
            named("promise " + promise.group(1));
            Matcher refusal = Pattern.compile("\\b(BAD|NOT|STATE|FULL)\\b").matcher(promise.group(3));
            while (refusal.find()) {
                String due = promise.group(2) + " " + refusal.group(1);
                if (!Script.REFUSED.contains(due)) {
                    Script.wrong("no script asks for " + due);
                }
            }
        }
        for (int section = 1; section <= 4; section++) {
            named("section " + section);
        }
        if (promises != 27) {
            Script.wrong("the document has " + promises + " promises");
        }
        Script.end();
    }

    private static void named(String what) {
        Pattern whole = Pattern.compile("\\b" + what + "\\b");
        if (Script.NAMES.stream().noneMatch(name -> whole.matcher(name).find())) {
            Script.wrong("no script is named by " + what);
        }
    }
}
