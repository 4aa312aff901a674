import java.io.IOException;
import java.lang.reflect.Constructor;
import java.lang.reflect.Field;
import java.lang.reflect.Method;
import java.lang.reflect.Modifier;
import java.nio.charset.StandardCharsets;
import java.nio.file.Files;
import java.nio.file.Paths;
import java.util.ArrayList;
import java.util.List;
import java.util.TreeSet;
import java.util.regex.Matcher;
import java.util.regex.Pattern;

/** The face as ../shared/DOC.md tells it, and what of ../shared/LANGUAGE.md can be seen from outside. */
final class RulesTest {
    private static final String PROGRAM = "src/main/java/SheGoesOut.java";
    private static final String[] FORBIDDEN = {"\\btry\\b", "\\bcatch\\b", "\\bthrow\\b", "\\bfinally\\b", "->", "::",
        "\\bassert\\b", "\\bsynchronized\\b", "Exact\\b", "\\bvar\\b", "\\bThread\\b", "\\bRandom\\b", "System\\.(?!arraycopy)",
        "\\bdouble\\b", "\\bfloat\\b", "\\bprotected\\b", "static \\{", "\\bhashCode\\b", "\\btoString\\b"};

    public static void main(String[] args) throws IOException {
        face();
        otherMembers();
        classesInside();
        source();
        Check.close();
    }

    private static String read(String path) throws IOException {
        return new String(Files.readAllBytes(Paths.get(path)), StandardCharsets.ISO_8859_1);
    }

    private static void face() throws IOException {
        String document = read("../shared/DOC.md");
        int from = document.indexOf("```java");
        String face = document.substring(from, document.indexOf("```", from + 3));
        TreeSet<String> due = new TreeSet<>();
        Matcher m = Pattern.compile("public (int|long) (\\w+)\\(([^)]*)\\);").matcher(face);
        while (m.find()) {
            String parameters = m.group(3).replaceAll("(int|long) \\w+", "$1").replace(" ", "");
            due.add(m.group(1) + " " + m.group(2) + "(" + parameters + ")");
        }
        Check.due("methods of the document", due.size(), 44);
        TreeSet<String> is = new TreeSet<>();
        for (Method method : SheGoesOut.class.getDeclaredMethods()) {
            if (!Modifier.isPublic(method.getModifiers())) continue;
            Check.holds("not static: " + method.getName(), !Modifier.isStatic(method.getModifiers()));
            StringBuilder b = new StringBuilder();
            for (Class<?> type : method.getParameterTypes()) b.append(b.length() == 0 ? "" : ",").append(type.getName());
            is.add(method.getReturnType().getName() + " " + method.getName() + "(" + b + ")");
        }
        Check.holds("the face is " + is + ", due is " + due, is.equals(due));
        Check.holds("public and final", Modifier.isPublic(SheGoesOut.class.getModifiers())
            && Modifier.isFinal(SheGoesOut.class.getModifiers()));
    }

    private static void otherMembers() {
        TreeSet<String> names = new TreeSet<>();
        for (Method method : SheGoesOut.class.getDeclaredMethods()) {
            if (Modifier.isPublic(method.getModifiers())) names.add(method.getName());
        }
        for (Method method : SheGoesOut.class.getDeclaredMethods()) {
            boolean isPublic = Modifier.isPublic(method.getModifiers());
            Check.holds("rule 1: " + method, isPublic || Modifier.isPrivate(method.getModifiers()));
            Check.holds("rule 1, names: " + method, isPublic || !names.contains(method.getName()));
            Check.holds("rule 6: " + method, method.getExceptionTypes().length == 0);
        }
        int constants = 0;
        for (Field field : SheGoesOut.class.getDeclaredFields()) {
            int how = field.getModifiers();
            if (Modifier.isPublic(how)) constants++;
            Check.holds("rule 1: " + field, Modifier.isPublic(how) ? Modifier.isStatic(how) : Modifier.isPrivate(how));
            Check.holds("rule 5: " + field, !Modifier.isStatic(how) || Modifier.isFinal(how));
        }
        Check.due("constants", constants, 8);
        Constructor<?>[] constructors = SheGoesOut.class.getDeclaredConstructors();
        Check.due("constructors", constructors.length, 1);
        Check.holds("the constructor", Modifier.isPublic(constructors[0].getModifiers())
            && constructors[0].getParameterCount() == 0);
    }

    private static void classesInside() {
        Class<?>[] inside = SheGoesOut.class.getDeclaredClasses();
        Check.holds("rule 11: some twelve classes", inside.length <= 12);
        for (Class<?> one : inside) {
            int how = one.getModifiers();
            Check.holds("rule 1: " + one, !Modifier.isPublic(how) && !Modifier.isProtected(how) && Modifier.isStatic(how));
            int fields = 0;
            for (Field field : one.getDeclaredFields()) {
                if (!Modifier.isStatic(field.getModifiers())) fields++;
                else Check.holds("rule 5: " + field, Modifier.isFinal(field.getModifiers()));
            }
            Check.holds("rule 11: fields of " + one, fields <= 20);
            for (Method method : one.getDeclaredMethods()) {
                Check.holds("rule 11: " + method, method.getParameterCount() <= 7);
            }
        }
    }

    private static void source() throws IOException {
        String source = read(PROGRAM);
        for (int i = 0; i < source.length(); i++) {
            char c = source.charAt(i);
            if (c != '\n' && (c < 32 || c > 126)) Check.due("rule 3: the sign at " + i, c, 0);
        }
        String bare = source.replaceAll("(?s)/\\*.*?\\*/", "").replaceAll("//[^\n]*", "");
        for (String forbidden : FORBIDDEN) {
            Check.holds("the source has " + forbidden, !Pattern.compile(forbidden).matcher(bare).find());
        }
        Matcher imports = Pattern.compile("import ([\\w.*]+);").matcher(bare);
        while (imports.find()) Check.holds("rule 4: " + imports.group(1), imports.group(1).equals("java.util.Arrays"));
        Check.holds("no package", !Pattern.compile("(?m)^package").matcher(bare).find());
        List<String> lines = new ArrayList<>(List.of(bare.split("\n")));
        for (String line : lines) {
            // Rule 12, and the one room of a run: all is made with the object.
            boolean makes = line.contains("new ");
            Check.holds("made outside a field: " + line, !makes || line.matches(" +(private )?final .* = new .*;"));
        }
        Check.holds("rule 11: a method of over 60 lines", longestMethod(lines) <= 60);
    }

    /** Bodies begin with a line that ends in ") {" and end with a } as far in. */
    private static int longestMethod(List<String> lines) {
        int longest = 0;
        for (int i = 0; i < lines.size(); i++) {
            Matcher m = Pattern.compile("^( {4}| {8})\\w[\\w<>\\[\\] ]* \\w+\\(.*\\) \\{$").matcher(lines.get(i));
            if (!m.find()) continue;
            int end = i;
            while (end < lines.size() && !lines.get(end).equals(m.group(1) + "}")) end++;
            longest = Math.max(longest, end - i + 1);
        }
        return longest;
    }
}
