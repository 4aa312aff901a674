import java.io.IOException;
import java.io.UncheckedIOException;
import java.lang.reflect.InvocationTargetException;
import java.lang.reflect.Method;
import java.nio.charset.StandardCharsets;
import java.nio.file.Files;
import java.nio.file.Paths;
import java.util.List;
import java.util.TreeMap;
import java.util.TreeSet;
import java.util.regex.Matcher;
import java.util.regex.Pattern;

/**
 * Runs of calls written as a text, each on a new object and beside the sentence of ../shared/DOC.md that asks for
 * its answers: "start 0 0 = 1; 16x night 60; night 40 = FULL". A number before an x says how often, a text in quotes
 * comes on THE TAPE first (behind type: alone), MIN and MAX are the ints' ends, ALL is 2^40 (ALL*3/16 is worked out
 * from the left).
 */
final class Edges {
    static final long ALL = 1L << 40;
    private static final int MOST_CALLS = 512;
    private static final int TERMS = 0;
    private static final List<String> REASONS = List.of("BAD", "NOT", "FULL", "NONE", "NULL", "CAST", "INDEX", "SIZE");
    private static final int[] ANSWERS = {-1, -2, -3, -4, -11, -12, -13, -14};
    private static final Pattern CALL = Pattern.compile("(?:(\\d+)x )?(\\w+)(?: \"(.*)\")?((?: [-\\w]+)*)(?: = (\\S+))?");
    private static final TreeSet<Integer> TESTED = new TreeSet<>();
    private static final TreeMap<Integer, String> SECTIONS = new TreeMap<>();

    private final SheGoesOut x = new SheGoesOut();
    private final String label;
    private int calls = 0;

    Edges(String label) {
        this.label = label;
    }

    /** What the Terms ask at an edge, and whether they do ask it. */
    static Edges terms(String sentence, String... runs) {
        return edge(TERMS, sentence, runs);
    }

    /** What a sentence of a promise asks at an edge, and whether it stands there. */
    static Edges edge(int promise, String sentence, String... runs) {
        Check.holds("P" + promise + " of the document says: " + sentence, section(promise).contains(sentence));
        TESTED.add(promise);
        Edges edges = new Edges("P" + promise + " " + sentence);
        for (String run : runs) edges.run(run);
        return edges;
    }

    static void eachIsTested(int first, int last) {
        for (int promise = first; promise <= last; promise++) {
            Check.holds("P" + promise + " has a test", TESTED.contains(promise));
        }
    }

    private static String section(int promise) {
        return SECTIONS.computeIfAbsent(promise, Edges::read);
    }

    private static String read(int promise) {
        try {
            String document = new String(Files.readAllBytes(Paths.get("../shared/DOC.md")), StandardCharsets.ISO_8859_1);
            int from = document.indexOf(promise == TERMS ? "## Terms\n" : "## Promise " + promise + ":");
            int to = document.indexOf("\n## ", from);
            return document.substring(from, to).replaceAll("\\s+", " ");
        } catch (IOException e) {
            throw new UncheckedIOException(e);
        }
    }

    Edges run(String run) {
        for (String call : run.split("; ")) row(call);
        return this;
    }

    private void row(String row) {
        Matcher m = CALL.matcher(row);
        if (!m.matches()) throw new IllegalArgumentException(row);
        if (m.group(3) != null) {
            Check.type(x, m.group(3));
            calls += (m.group(3).length() + 7) / 8;
            if (m.group(2).equals("type")) return;
        }
        int times = m.group(1) == null ? 1 : Integer.parseInt(m.group(1));
        for (int i = 0; i < times; i++) {
            long got = call(m.group(2), m.group(4));
            if (m.group(5) != null) Check.due(label + " | " + row, got, number(m.group(5)));
        }
    }

    SheGoesOut object() {
        return x;
    }

    /** What a call answers, as text: "night 7". */
    long answer(String call) {
        int blank = call.indexOf(' ');
        return blank < 0 ? call(call, "") : call(call.substring(0, blank), call.substring(blank));
    }

    private long call(String name, String args) {
        calls++;
        if (calls > MOST_CALLS) throw new IllegalStateException("too many calls: " + label);
        String[] texts = args.isBlank() ? new String[0] : args.trim().split(" ");
        Method method = method(name);
        Class<?>[] types = method.getParameterTypes();
        if (types.length != texts.length) throw new IllegalArgumentException(name + args);
        Object[] values = new Object[texts.length];
        for (int i = 0; i < texts.length; i++) {
            long value = number(texts[i]);
            if (types[i] == int.class) values[i] = Math.toIntExact(value);
            else values[i] = value;
        }
        try {
            return ((Number) method.invoke(x, values)).longValue();
        } catch (InvocationTargetException e) {
            throw new AssertionError(label + " | " + name + args + " threw", e.getCause());
        } catch (IllegalAccessException e) {
            throw new IllegalStateException(e);
        }
    }

    private static Method method(String name) {
        for (Method method : SheGoesOut.class.getMethods()) {
            if (method.getName().equals(name) && method.getDeclaringClass() == SheGoesOut.class) return method;
        }
        throw new IllegalArgumentException(name);
    }

    static long number(String text) {
        if (REASONS.contains(text)) return ANSWERS[REASONS.indexOf(text)];
        if (text.equals("MAX")) return Integer.MAX_VALUE;
        if (text.equals("MIN")) return Integer.MIN_VALUE;
        if (!text.startsWith("ALL")) return Long.decode(text);
        long value = ALL;
        Matcher m = Pattern.compile("([*/])(\\d+)").matcher(text);
        while (m.find()) value = m.group(1).equals("*") ? value * Long.parseLong(m.group(2)) : value / Long.parseLong(m.group(2));
        return value;
    }
}
