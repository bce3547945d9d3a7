import java.lang.reflect.InvocationTargetException;
import java.lang.reflect.Method;
import java.nio.charset.StandardCharsets;
import java.nio.file.Files;
import java.nio.file.Path;
import java.util.ArrayList;
import java.util.Arrays;
import java.util.Comparator;
import java.util.List;
import java.util.Set;
import java.util.TreeSet;

/** Runs each test of a class that Says of which sentence it is, and looks whether that sentence stands in the document. */
final class Sentences {
    private static final List<String> WRONG = new ArrayList<>();

    private Sentences() { }

    static void wrong(String what) { WRONG.add(what); }

    /** Each of these sections of the document must have a sentence with a test. */
    static void run(Class<?> tests, List<String> sections) throws Exception {
        String document = Files.readString(Path.of("../shared/DOC.md"), StandardCharsets.UTF_8);
        Method[] all = tests.getDeclaredMethods();
        Arrays.sort(all, Comparator.comparing(Method::getName));
        Set<String> told = new TreeSet<>();
        int held = 0;
        int broken = 0;
        for (Method test : all) {
            Says says = test.getAnnotation(Says.class);
            if (says == null) continue;
            WRONG.clear();
            quoted(document, says.value());
            told.add(says.value()[0]);
            runOne(test);
            if (WRONG.isEmpty()) held++;
            else {
                broken++;
                System.out.println(says.value()[0] + ": \"" + says.value()[1] + "\" (" + test.getName() + ")");
                for (String w : WRONG) System.out.println("  " + w);
            }
        }
        for (String section : sections) {
            if (told.contains(section)) continue;
            broken++;
            System.out.println("no sentence of " + section + " has a test");
        }
        System.out.println(held + " sentences hold, " + broken + " do not");
        if (broken > 0 || held == 0) System.exit(1);
    }

    private static void runOne(Method test) throws Exception {
        try {
            test.invoke(null);
        } catch (InvocationTargetException e) {
            WRONG.add("it threw " + e.getCause());
            e.getCause().printStackTrace(System.out);
        }
    }

    private static void quoted(String document, String[] says) {
        if (says.length != 2 || !plain(section(document, says[0])).contains(plain(says[1]))) {
            WRONG.add("the document does not say so there");
        }
    }

    private static String plain(String text) { return text.replaceAll("\\s+", " "); }

    private static String section(String document, String name) {
        if (name.startsWith("Promise ")) return between(document, "## " + name + ":", "\n## ");
        String next = switch (name) {
            case "I" -> "\nII. ";
            case "II" -> "\nIII. ";
            case "III" -> "\nIV. ";
            default -> "\nThe constants:";
        };
        return between(document, "\n" + name + ". ", next);
    }

    private static String between(String document, String from, String to) {
        int start = document.indexOf(from);
        if (start < 0) return "";
        int end = document.indexOf(to, start + 1);
        return document.substring(start, end < 0 ? document.length() : end);
    }
}
