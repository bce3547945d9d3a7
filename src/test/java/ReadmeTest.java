import java.lang.reflect.Method;
import java.lang.reflect.Modifier;
import java.nio.charset.StandardCharsets;
import java.nio.file.Files;
import java.nio.file.Path;
import java.util.ArrayList;
import java.util.List;
import java.util.Set;
import java.util.TreeSet;
import java.util.regex.Matcher;
import java.util.regex.Pattern;

/** Makes the calls of README.md and looks whether they answer as it says; each call of the face is among them. */
public final class ReadmeTest {
    private static final Pattern BLOCK = Pattern.compile("(?s)```java\n(.*?)```");
    private static final Pattern CALL = Pattern.compile("x\\.(\\w+)\\((.*)\\); +// (-?\\d+)(:.*)?");
    private static final Pattern PUT = Pattern.compile("put\\(x, \"(.*)\"\\);");
    private static final String MADE = "TownSundays x = new TownSundays();";

    private static final Checks C = new Checks();
    private static final Set<String> SEEN = new TreeSet<>();
    private static TownSundays x = null;

    public static void main(String[] args) throws Exception {
        String page = Files.readString(Path.of("README.md"), StandardCharsets.UTF_8);
        Matcher blocks = BLOCK.matcher(page);
        while (blocks.find()) {
            if (blocks.group(1).contains("static void put(")) putIsOurs(blocks.group(1));
            else for (String line : blocks.group(1).split("\n")) read(line.strip());
        }
        for (Method m : TownSundays.class.getDeclaredMethods()) {
            if (Modifier.isPublic(m.getModifiers())) C.ok(m.getName() + " has an example", SEEN.contains(m.getName()));
        }
        C.ok("each test is told of", tellsOfTests(page));
        C.finish();
    }

    private static void read(String line) throws Exception {
        Matcher call = CALL.matcher(line);
        Matcher put = PUT.matcher(line);
        if (line.equals(MADE)) x = new TownSundays();
        else if (put.matches() && x != null) Checks.put(x, put.group(1));
        else if (call.matches() && x != null) made(line, call.group(1), call.group(2), Long.parseLong(call.group(3)));
        else C.ok("it can be read: " + line, false);
    }

    private static void made(String line, String name, String numbers, long want) throws Exception {
        List<Object> told = new ArrayList<>();
        for (String n : numbers.isEmpty() ? new String[0] : numbers.split(", ")) {
            told.add(n.equals("TownSundays.NONE") ? (Integer) TownSundays.NONE : Integer.decode(n));
        }
        Class<?>[] kinds = new Class<?>[told.size()];
        java.util.Arrays.fill(kinds, int.class);
        SEEN.add(name);
        C.due(line, ((Number) TownSundays.class.getMethod(name, kinds).invoke(x, told.toArray())).longValue(), want);
    }

    private static String plain(String text) { return text.replaceAll("\\s+", " ").strip(); }

    /** What the page says of feeding a String is how the tests do it. */
    private static void putIsOurs(String block) throws Exception {
        String ours = Files.readString(Path.of("src/test/java/Checks.java"), StandardCharsets.UTF_8);
        C.ok("put() stands in Checks", plain(ours).contains(plain(block)));
    }

    private static boolean tellsOfTests(String page) {
        boolean all = true;
        String[] names = new java.io.File("src/test/java").list();
        for (String name : names == null ? new String[0] : names) {
            if (name.endsWith("Test.java")) all &= page.contains("`" + name.replace(".java", "") + "`");
        }
        return all && names != null;
    }
}
