import java.io.IOException;
import java.lang.reflect.Method;
import java.nio.file.Files;
import java.nio.file.Path;
import java.util.ArrayList;
import java.util.List;
import java.util.TreeMap;
import java.util.regex.Matcher;
import java.util.regex.Pattern;

/**
 * Holds the tests against the document: the words that a test stands for are words of its promise (or of "Terms"),
 * and each place of the document that names a boundary case is among the words of some test.
 */
public final class SentencesTest {
    private static final int TERMS = 0, PROMISES = 44;
    private static final Pattern BOUNDARY = Pattern.compile(
        "\\b(BAD|FULL|STATE|SPENT|NOTHING|BEYOND|UNLIKE|NOUGHT|SIZE|NONE)\\b"
        + "|\\d+ (\\.\\.|to) \\d+|\\d+ at most|\\b(above|below|cut|anew|missing|nobody|before|order\\.)"
        + "|perhaps|at once|as if|stays?\\b|none within|blanks alone|too early|eighth|if there is none|if all are");
    private static final Class<?>[] TESTS = {RowsTest.class, TextsTest.class, DeedsTest.class, TurnsTest.class,
        TradesTest.class, GoersTest.class, PlacesTest.class, ToldTest.class};
    private static final Due due = new Due();

    public static void main(String[] args) throws IOException {
        TreeMap<Integer, String> sections = sectionsOf(Files.readString(Path.of("../shared/DOC.md")));
        TreeMap<Integer, List<String>> said = saidByTests(sections);
        for (int number : sections.keySet()) {
            everyBoundary(number, sections.get(number), said.getOrDefault(number, List.of()));
        }
        due.end("SentencesTest");
    }

    /** "Terms" (0) and the promises by their numbers, all blanks made one. */
    private static TreeMap<Integer, String> sectionsOf(String document) {
        TreeMap<Integer, String> sections = new TreeMap<>();
        for (String part : document.split("\n(?=## )")) {
            Matcher title = Pattern.compile("## (Terms|Promise (\\d+): .*)\n").matcher(part);
            if (title.lookingAt()) {
                int number = title.group(2) == null ? TERMS : Integer.parseInt(title.group(2));
                String text = part.substring(title.end()).replaceAll("(?s)```text\n|```", "");
                sections.put(number, text.replaceAll("`[^`\n]*`: ", "").replaceAll("\\s+", " "));
            }
        }
        due.is("sections of the document", sections.size(), PROMISES + 1);
        return sections;
    }

    private static TreeMap<Integer, List<String>> saidByTests(TreeMap<Integer, String> sections) {
        TreeMap<Integer, List<String>> said = new TreeMap<>();
        for (Class<?> tests : TESTS) {
            for (Method m : Due.testsOf(tests)) {
                int number = Integer.parseInt(m.getName().substring(7, 9));
                Says says = m.getAnnotation(Says.class);
                due.is(m.getName() + " tells what it stands for", says == null ? 0 : 1, 1);
                for (String words : says == null ? new String[0] : says.value()) {
                    boolean own = sections.getOrDefault(number, "").contains(words);
                    boolean term = !own && sections.get(TERMS).contains(words);
                    due.is(m.getName() + ": the document says '" + words + "'", own || term ? 1 : 0, 1);
                    said.computeIfAbsent(own ? number : TERMS, key -> new ArrayList<>()).add(words);
                }
            }
        }
        for (int number = 1; number <= PROMISES; number++) {
            due.is("promise " + number + " has tests", said.containsKey(number) ? 1 : 0, 1);
        }
        return said;
    }

    private static void everyBoundary(int number, String section, List<String> said) {
        boolean[] tested = new boolean[section.length()];
        for (String words : said) {
            for (int from = section.indexOf(words); from >= 0; from = section.indexOf(words, from + 1)) {
                for (int k = from; k < from + words.length(); k++) {
                    tested[k] = true;
                }
            }
        }
        Matcher boundary = BOUNDARY.matcher(section);
        while (boundary.find()) {
            String near = section.substring(Math.max(0, boundary.start() - 30), Math.min(section.length(), boundary.end() + 30));
            due.is((number == TERMS ? "Terms" : "promise " + number) + ": '" + boundary.group() + "' in '" + near
                + "' has a test", tested[boundary.start()] ? 1 : 0, 1);
        }
    }
}
