import java.lang.reflect.Constructor;
import java.lang.reflect.Field;
import java.lang.reflect.Method;
import java.lang.reflect.Modifier;
import java.nio.charset.StandardCharsets;
import java.nio.file.Files;
import java.nio.file.Path;
import java.util.ArrayList;
import java.util.List;
import java.util.Set;
import java.util.TreeSet;
import java.util.regex.Matcher;
import java.util.regex.Pattern;

/** What of LANGUAGE.md can be seen by looking at the class and its file. */
public final class RulesTest {
    private static final Checks C = new Checks();

    private static final Pattern METHOD = Pattern.compile("public (\\w+ \\w+)\\(([^)]*)\\);");

    public static void main(String[] args) throws Exception {
        face();
        inside();
        String source = Files.readString(Path.of("src/main/java/TownSundays.java"), StandardCharsets.UTF_8);
        file(source);
        methods(withoutComments(source));
        C.finish();
    }

    /** The methods that the document tells under "The public face". */
    private static Set<String> documentsFace() throws Exception {
        String document = Files.readString(Path.of("../shared/DOC.md"), StandardCharsets.UTF_8);
        String face = document.substring(document.indexOf("## The public face"), document.indexOf("## Terms"));
        Set<String> methods = new TreeSet<>();
        Matcher m = METHOD.matcher(face);
        while (m.find()) methods.add(m.group(1) + "(" + m.group(2).replaceAll("(\\w+) \\w+", "$1").replace(", ", ",") + ")");
        C.ok("the document's face has methods and NONE", methods.size() > 30 && face.contains("public static final int NONE = -1;"));
        return methods;
    }

    private static String told(Method m) {
        StringBuilder b = new StringBuilder(m.getReturnType().getName()).append(' ').append(m.getName()).append('(');
        for (int i = 0; i < m.getParameterCount(); i++) b.append(i == 0 ? "" : ",").append(m.getParameterTypes()[i].getName());
        return b.append(')').toString();
    }

    private static void face() throws Exception {
        Set<String> open = new TreeSet<>();
        Set<String> names = new TreeSet<>();
        for (Method m : TownSundays.class.getDeclaredMethods()) {
            if (Modifier.isPrivate(m.getModifiers()) || m.isSynthetic()) continue;
            C.ok("rule 1: " + m + " is public and no static one", Modifier.isPublic(m.getModifiers()) && !Modifier.isStatic(m.getModifiers()));
            open.add(told(m));
            names.add(m.getName());
        }
        C.ok("rule 1: the face is " + open, open.equals(documentsFace()));
        C.due("NONE", TownSundays.NONE, -1);
        C.ok("rule 1: public and final", Modifier.isPublic(TownSundays.class.getModifiers()) && Modifier.isFinal(TownSundays.class.getModifiers()));
        Constructor<?>[] makers = TownSundays.class.getDeclaredConstructors();
        C.ok("rule 1: the constructor", makers.length == 1 && Modifier.isPublic(makers[0].getModifiers()) && makers[0].getParameterCount() == 0);
        for (Field f : TownSundays.class.getDeclaredFields()) {
            boolean none = f.getName().equals("NONE") && Modifier.isPublic(f.getModifiers()) && Modifier.isFinal(f.getModifiers());
            C.ok("rule 1: " + f, none || Modifier.isPrivate(f.getModifiers()));
        }
        for (Method m : TownSundays.class.getDeclaredMethods()) {
            if (Modifier.isPrivate(m.getModifiers())) C.ok("rule 1: the name of " + m, !names.contains(m.getName()));
        }
        for (Class<?> c : TownSundays.class.getDeclaredClasses()) {
            for (Method m : c.getDeclaredMethods()) C.ok("rule 1: the name of " + m, !names.contains(m.getName()));
        }
    }

    private static void inside() {
        Class<?>[] all = TownSundays.class.getDeclaredClasses();
        C.ok("rule 11: at most twelve classes", all.length + 1 <= 12);
        for (Class<?> c : all) {
            C.ok("rule 2: " + c + " is static and not public", Modifier.isStatic(c.getModifiers()) && !Modifier.isPublic(c.getModifiers()));
            fields(c);
        }
        fields(TownSundays.class);
    }

    private static void fields(Class<?> c) {
        int own = 0;
        for (Field f : c.getDeclaredFields()) {
            if (Modifier.isStatic(f.getModifiers())) C.ok("rule 5: " + f + " is final", Modifier.isFinal(f.getModifiers()));
            else own++;
        }
        C.ok("rule 11: fields of " + c, own <= 20);
        for (Method m : c.getDeclaredMethods()) C.ok("rule 11: parameters of " + m, m.getParameterCount() <= 7);
    }

    private static String withoutComments(String source) {
        return source.replaceAll("(?s)/\\*.*?\\*/", "").replaceAll("//[^\n]*", "");
    }

    private static void file(String source) {
        for (char c : source.toCharArray()) if (c > 126) C.ok("rule 3: the sign " + (int) c, false);
        String code = withoutComments(source);
        String[] words = {"throw", "throws", "try", "catch", "finally", "synchronized", "assert", "package", "instanceof", "enum", "record",
            "System\\.(?!arraycopy)\\w+", "Exact", "Thread", "Object", "double", "float", "native", "volatile", "abstract", "extends", "implements",
            "var", "yield", "goto", "hashCode", "toString", "equals", "HashMap", "Random"};
        for (String w : words) C.ok("rules 3, 4, 6: no " + w, !Pattern.compile("\\b" + w + "\\b").matcher(code).find());
        C.ok("rule 2: no lambda, no method reference", !code.contains("->") && !code.contains("::"));
        C.ok("rule 10: no joining by +", !Pattern.compile("\"\\s*\\+|\\+\\s*\"").matcher(code).find());
        Matcher imports = Pattern.compile("import [^;]*;").matcher(code);
        while (imports.find()) C.ok("rule 4: " + imports.group(), imports.group().equals("import java.util.Arrays;"));
        Matcher calls = Pattern.compile("\\b(Math|Arrays|Integer|Long|System)\\.(\\w+)").matcher(code);
        List<String> may = List.of("Math.max", "Math.min", "Arrays.fill", "Integer.bitCount", "System.arraycopy");
        while (calls.find()) C.ok("rule 4: " + calls.group(), may.contains(calls.group()));
    }

    /** Methods stand at four or eight blanks, and so do the brackets that end them. */
    private static void methods(String code) {
        String[] lines = code.split("\n");
        List<String> open = new ArrayList<>();
        for (int i = 0; i < lines.length; i++) {
            if (!lines[i].matches("( {4}| {8})(public |private |static )*[\\w\\[\\]]+ ?\\w*\\(.*\\{")) continue;
            String end = lines[i].startsWith("        ") ? "        }" : "    }";
            int j = i;
            while (j < lines.length && !lines[j].equals(end)) j++;
            C.ok("rule 11: the method of line " + (i + 1) + " is short", j - i + 1 <= 60);
            open.add(lines[i]);
        }
        C.ok("rule 11: methods were seen", open.size() > 100);
        C.ok("rule 9: no loop without an end", !Pattern.compile("while \\(true\\)|for \\(;;|; ;").matcher(code).find());
    }
}
