import java.nio.file.Files;
import java.nio.file.Path;
import java.util.ArrayList;
import java.util.List;
import java.util.regex.Matcher;
import java.util.regex.Pattern;

/** The public face as the document lists it. */
final class DocumentFace {
    private static final Pattern LISTED = Pattern.compile("    public (int|long) (\\w+)\\(([^)]*)\\);");

    private DocumentFace() {
    }

    /** As "long likely(int,int,int)". */
    static List<String> signatures() throws Exception {
        List<String> found = new ArrayList<>();
        String document = Files.readString(Path.of("../shared/DOC.md"));
        Matcher listed = LISTED.matcher(document);
        while (listed.find()) {
            String types = listed.group(3).replaceAll("(\\w+) \\w+", "$1").replace(" ", "");
            found.add(listed.group(1) + " " + listed.group(2) + "(" + types + ")");
        }
        return found;
    }

    static List<String> names() throws Exception {
        List<String> found = new ArrayList<>();
        for (String each : signatures()) {
            found.add(each.substring(each.indexOf(' ') + 1, each.indexOf('(')));
        }
        return found;
    }
}
