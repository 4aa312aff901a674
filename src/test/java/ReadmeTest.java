import java.io.IOException;
import java.nio.charset.StandardCharsets;
import java.nio.file.Files;
import java.nio.file.Paths;
import java.util.regex.Matcher;
import java.util.regex.Pattern;

/** The example of README.md is run as it stands there: each call answers the number beside it. */
final class ReadmeTest {
    private static final Pattern LINE = Pattern.compile("x\\.(\\w+)\\((.*)\\); +// (-?\\d+): .+");

    public static void main(String[] args) throws IOException {
        String readme = new String(Files.readAllBytes(Paths.get("README.md")), StandardCharsets.ISO_8859_1);
        int from = readme.indexOf("```java\n") + "```java\n".length();
        Edges edges = new Edges("README");
        int calls = 0;
        for (String line : readme.substring(from, readme.indexOf("```", from)).split("\n")) {
            if (line.isEmpty() || line.startsWith("SheGoesOut x = new SheGoesOut();")) continue;
            Matcher m = LINE.matcher(line);
            Check.holds("a call with its answer: " + line, m.matches());
            String numbers = m.group(2).replace("L", "").replace(",", "");
            Check.due("README " + line, edges.answer((m.group(1) + " " + numbers).trim()), Long.parseLong(m.group(3)));
            calls++;
        }
        Check.holds("README shows calls", calls > 30);
        Check.close();
    }
}
