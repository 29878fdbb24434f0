import java.io.IOException;
import java.lang.reflect.Field;
import java.lang.reflect.Method;
import java.lang.reflect.Modifier;
import java.nio.file.Files;
import java.nio.file.Path;
import java.util.regex.Matcher;
import java.util.regex.Pattern;

/** Runs the calls that README.md shows, one behind the other, and holds the answers against its comments. */
public final class ReadmeTest {
    private static final Pattern SIGNS = Pattern.compile("String signs = \"([^\"]*)\";");
    private static final Pattern CALL = Pattern.compile("x\\.(\\w+\\([^)]*\\)); *// (-?\\d+|[A-Z]+)\\b.*");
    private static final Due due = new Due();
    private static MoonLine x = null;
    private static String signs = "";
    private static int shown = 0;

    public static void main(String[] args) throws Exception {
        String page = Files.readString(Path.of("README.md"));
        Matcher blocks = Pattern.compile("(?s)```java\n(.*?)```").matcher(page);
        while (blocks.find()) {
            for (String row : blocks.group(1).split("\n")) {
                runRow(row.trim());
            }
        }
        due.is("calls are shown", shown > 20 ? 1 : 0, 1);
        namesAll(page);
        due.end("ReadmeTest");
    }

    private static void runRow(String row) throws Exception {
        Matcher text = SIGNS.matcher(row);
        Matcher call = CALL.matcher(row);
        if (row.equals("MoonLine x = new MoonLine();")) {
            x = new MoonLine();
        } else if (text.matches()) {
            signs = text.group(1);
        } else if (row.equals("x.text(0, signs.length());")) {
            x.text(0, signs.length());
        } else if (row.startsWith("for (int k = 0; k < signs.length(); k++) x.put(0, k, signs.charAt(k));")) {
            Due.write(x, 0, signs);
        } else {
            due.is("'" + row + "' can be run", call.matches() ? 1 : 0, 1);
            due.is(x, call.group(1), number(call.group(2)));
            shown++;
        }
    }

    private static long number(String word) throws Exception {
        boolean isName = Character.isLetter(word.charAt(0));
        return isName ? MoonLine.class.getField(word).getInt(null) : Long.parseLong(word);
    }

    private static void namesAll(String page) throws IOException {
        for (Method m : MoonLine.class.getDeclaredMethods()) {
            if (Modifier.isPublic(m.getModifiers())) {
                due.is("README.md names " + m.getName(), page.contains("`" + m.getName() + "`") ? 1 : 0, 1);
            }
        }
        for (Field f : MoonLine.class.getFields()) {
            due.is("README.md names " + f.getName(), page.contains("`" + f.getName() + "`") ? 1 : 0, 1);
        }
    }
}
