import java.io.IOException;
import java.nio.charset.StandardCharsets;
import java.nio.file.Files;
import java.nio.file.Path;
import java.util.ArrayList;
import java.util.List;
import java.util.regex.Matcher;
import java.util.regex.Pattern;

/** What README.md says that calls answer: each of its rows is asked here, in its order, and none is left out. */
public final class ReadmeTest {
    private static final String TEXT = "good dock 60;\nfloat cat 2 5 5 3 wants dock 40;\n"
        + "float dog 1 8 10 0 wants dock 25;\ntown port gives dock ask cost / members;\n";
    private static final List<String> ASKED = new ArrayList<>();

    public static void main(String[] args) throws IOException {
        String page = new String(Files.readAllBytes(Path.of("README.md")), StandardCharsets.UTF_8);
        FloatTowns x = new FloatTowns();
        Check.due("the page has the text", page.contains("```text\n" + TEXT), true);
        row("tell(x, text)", Check.tell(x, TEXT));
        row("x.first(0)", x.first(0));
        row("x.party(12, 0)", x.party(12, 0));
        row("x.would(2, 1, 0)", x.would(2, 1, 0));
        row("x.go(0, 1, 0)", x.go(0, 1, 0));
        row("x.go(0, 1, 0)", x.go(0, 1, 0));
        row("x.worth(0, 0, false)", x.worth(0, 0, false));
        row("x.gain(0, 0, 1)", x.gain(0, 0, 1));
        row("x.edge(0, 0)", x.edge(0, 0));
        row("x.empties(0)", x.empties(0));
        row("x.all(1)", x.all(1));
        row("x.total()", x.total());
        row("x.lost(1)", x.lost(1));
        row("x.undo()", x.undo());
        row("x.goings(300)", x.goings(300));
        row("x.at(0, 1)", x.at(0, 1));
        row("tell(x, \"good dok 1000;\")", Check.tell(x, "good dok 1000;"));
        row("x.fault(0)", x.fault(0));
        row("x.fault(1)", x.fault(1));
        List<String> told = rowsOf(page);
        Check.due("rows of the page", told.size(), ASKED.size());
        for (int i = 0; i < Math.min(told.size(), ASKED.size()); i++) {
            String about = "the page's " + told.get(i) + ", answered " + ASKED.get(i);
            Check.due(about, told.get(i).equals(ASKED.get(i)), true);
        }
        callsOf(page);
        Check.end("ReadmeTest");
    }

    private static void row(String call, Object answer) {
        ASKED.add(call + " // " + answer);
    }

    /** Lines that hold a call and, behind two strokes, its answer. */
    private static List<String> rowsOf(String page) {
        List<String> rows = new ArrayList<>();
        Matcher m = Pattern.compile("(?m)^(\\S.*\\)) +// (\\S+)$").matcher(page);
        while (m.find()) {
            rows.add(m.group(1) + " // " + m.group(2));
        }
        return rows;
    }

    /** The page's table names every call of the face. */
    private static void callsOf(String page) {
        for (java.lang.reflect.Method call : FloatTowns.class.getMethods()) {
            if (call.getDeclaringClass() == FloatTowns.class) {
                Check.due("the page names " + call.getName(), page.contains("`" + call.getName() + "`"), true);
            }
        }
    }
}
