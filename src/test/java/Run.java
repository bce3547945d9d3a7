import java.lang.reflect.InvocationTargetException;
import java.lang.reflect.Method;
import java.lang.reflect.Modifier;
import java.util.ArrayList;
import java.util.HashMap;
import java.util.LinkedHashMap;
import java.util.List;
import java.util.Map;
import java.util.Set;
import java.util.TreeSet;

/**
 * A new object and the run of calls that is made on it, each told by its name and its numbers: "road 0 1 10".
 * "law likes 5", "orders pass", "row 0 1 10", "tape pass" stand for the calls that put this alone on the TAPE and
 * (but for "tape") have it read. A "?" ahead of a call: it may be refused.
 *
 * What a call leaves as it was is looked at on two other objects on which the same run was made, the one with that
 * call and the one without it: so the object itself stays as it was, and none has more than 512 calls.
 */
final class Run {
    private static final int MOST_CALLS = 512;
    private static final List<Integer> REFUSALS = List.of(-1, -2, -3, -5, -6);
    private static final Set<String> WITH_STATUS = Set.of("town", "road", "terms", "row", "law", "orders", "force", "swap",
        "round", "close", "pass", "undo", "heard", "centuries", "image", "back");
    private static final Map<String, Method> FACE = new HashMap<>();

    static {
        for (Method m : TownSundays.class.getDeclaredMethods()) {
            if (Modifier.isPublic(m.getModifiers())) FACE.put(m.getName(), m);
        }
    }

    private final TownSundays x = new TownSundays();
    private final List<String> calls = new ArrayList<>();
    // The same as it was told, TEXTS as words: for the messages.
    private final List<String> story = new ArrayList<>();
    private int made = 0;

    Run(String... calls) { make(calls); }

    private Run(List<String> calls) {
        for (String c : calls) call(c);
    }

    /** Makes calls whose answers are not looked at; they must not be refused. */
    Run make(String... many) {
        for (String call : many) {
            boolean may = call.startsWith("?");
            story.add(call);
            for (String c : expanded(may ? call.substring(1) : call)) {
                call(c);
                if (!may && WITH_STATUS.contains(c.split(" ")[0]) && answer("status") != 0) {
                    throw new IllegalStateException(c + " is refused by " + answer("status") + ": " + story);
                }
            }
        }
        return this;
    }

    // ---- what is due

    /** A call answers so. */
    void due(String call, long want) { judged(call, want); }

    /** A call answers so and is not refused. */
    void taken(String call, long want) {
        long[] were = refusals();
        judged(call, want);
        is("status", 0);
        long[] are = refusals();
        for (int i = 0; i < are.length; i++) if (are[i] != were[i]) wrong("count " + (8 + i), are[i], were[i]);
    }

    /** A call that changes nothing answers so: all is as it was, and so is what status() tells. */
    void tells(String call, long want) {
        List<String> ahead = new ArrayList<>(calls);
        judged(call, want);
        same(calls, ahead, Set.of());
        // Behind a call that was refused status() must go on to tell that.
        List<String> refused = new ArrayList<>(ahead);
        refused.add("swap 8 8");
        List<String> both = new ArrayList<>(refused);
        both.add(call);
        compare(new Run(both).look(), new Run(refused).look(), Set.of());
    }

    /** Each of these changes nothing and answers NONE. */
    void none(String... many) {
        for (String call : many) tells(call, -1);
    }

    /** A call is refused: status() tells it, it is counted, all else is as it was. */
    void refused(String call, int by) { refusedLike(call, by, List.of(), Set.of()); }

    /** A TEXT that law() or orders() can't read: the TAPE is empty, FAULT is told, all else is as it was. */
    void refusedText(String reader, String text, int fault) {
        Set<String> free = reader.equals("law") ? Set.of("fault") : Set.of("fault", "stopped");
        make("tape " + text);
        refusedLike(reader, -6, List.of("end 0"), free);
        is("fault", fault);
        if (reader.equals("orders")) is("stopped", -1);
        is("count 7", 0);
    }

    /** ORDERS one of whose CLAUSES can't be: the TAPE is empty, the CLAUSE is told, all else is as it was. */
    void refusedOrders(String text, int clause) {
        make("tape " + text);
        refusedLike("orders", -3, List.of("end 0"), Set.of("fault", "stopped"));
        is("fault", -1);
        is("stopped", clause);
        is("count 7", 0);
    }

    /** A call is refused, and all else is as if other calls had been made in its place, but for what is free. */
    void refusedLike(String call, int by, List<String> instead, Set<String> free) {
        List<String> other = new ArrayList<>(calls);
        other.addAll(instead);
        long[] were = refusals();
        judged(call, by);
        is("status", by);
        long[] are = refusals();
        for (int i = 0; i < are.length; i++) {
            long due = were[i] + (REFUSALS.get(i) == by ? 1 : 0);
            if (are[i] != due) wrong("count " + (8 + i), are[i], due);
        }
        Set<String> all = new TreeSet<>(free);
        all.add("status");
        for (int i = 8; i <= 12; i++) all.add("count " + i);
        same(calls, other, all);
    }

    /** Two runs stand alike in all that can be asked, now and behind other calls. */
    static void alike(Run one, Run other, String... free) { same(one.calls, other.calls, Set.of(free)); }

    /** What is asked without being one of the calls of the run. */
    long ask(String call) { return answer(call); }

    private void is(String call, long want) {
        long got = answer(call);
        if (got != want) wrong(call, got, want);
    }

    private void judged(String call, long want) {
        story.add(call);
        long got = 0;
        for (String c : expanded(call)) got = call(c);
        if (got != want) wrong(call, got, want);
    }

    private void wrong(String call, long got, long want) {
        Sentences.wrong(call + " answered " + got + ", due is " + want + ": " + story);
    }

    // ---- how two of them compare

    private static void same(List<String> one, List<String> other, Set<String> free) {
        for (int behind = 0; behind < 7; behind++) {
            compare(new Run(one).lookBehind(behind), new Run(other).lookBehind(behind), free);
        }
    }

    private static void compare(Map<String, Long> one, Map<String, Long> other, Set<String> free) {
        if (!one.keySet().equals(other.keySet())) Sentences.wrong("other calls can be made: " + one.keySet());
        for (Map.Entry<String, Long> e : one.entrySet()) {
            String call = e.getKey();
            boolean asked = other.containsKey(call) && !free.contains(call.substring(call.indexOf(':') + 1));
            if (asked && !e.getValue().equals(other.get(call))) {
                Sentences.wrong(call + " tells " + e.getValue() + " behind it, but else " + other.get(call));
            }
        }
    }

    /** All that can be asked behind what shows what else the object keeps: what can be undone, IMAGES, the TAPE. */
    private Map<String, Long> lookBehind(int behind) {
        Map<String, Long> all = new LinkedHashMap<>();
        if (behind == 1) undoAll(all);
        if (behind == 2) all.put("then:back 0", answer("back 0"));
        if (behind == 3) all.put("then:back 1", answer("back 1"));
        if (behind == 4) all.put("then:orders", answer("orders"));
        if (behind == 5) {
            long law = answer("law");
            all.put("then:law", law);
            if (law >= 0) answer("force " + law);
        }
        if (behind == 6) all.put("then:row", answer("row"));
        look(behind == 0 ? "" : "then:", all);
        return all;
    }

    private void undoAll(Map<String, Long> all) {
        long towns = answer("count 0");
        long undone = 0;
        for (int i = 0; i < 17 && undone >= 0; i++) {
            undone = answer("undo");
            all.put("undo " + i + ":undo", undone);
            // Of many TOWNS so much would be more calls than an object has.
            for (int t = 0; t < towns && (towns < 5 || t < 2); t++) {
                all.put("undo " + i + ":of " + t + " 0", answer("of " + t + " 0"));
                all.put("undo " + i + ":sunday " + t + " 1", answer("sunday " + t + " 1"));
            }
            all.put("undo " + i + ":count 3", answer("count 3"));
            all.put("undo " + i + ":count 14", answer("count 14"));
        }
    }

    private Map<String, Long> look() {
        Map<String, Long> all = new LinkedHashMap<>();
        look("", all);
        return all;
    }

    private void look(String name, Map<String, Long> all) {
        for (String call : questions((int) answer("count 0"))) all.put(name + call, answer(call));
    }

    private static List<String> questions(int towns) {
        List<String> all = new ArrayList<>(List.of("status", "fault", "stopped", "sidings", "repeated", "newOnes", "canBe",
            "ask 0", "ask 1", "few 2 9", "rings -1", "mostLiked -1", "anew -1", "home -1", "home 0", "home 1", "bargains -1", "bargains 0"));
        for (int i = 0; i <= 16; i++) all.add("count " + i);
        for (int t = 0; t < 7; t++) {
            all.add("drawn " + t + " 0");
            all.add("drawn " + t + " 1");
        }
        for (int t = 0; t < towns; t++) {
            for (String name : List.of("rings ", "mostLiked ", "anew ", "market ", "envy ")) all.add(name + t);
            for (int i = 0; i < 4; i++) all.add("sunday " + t + " " + i);
            all.add("of " + t + " 0");
            for (int s = 0; s < towns; s++) for (int from = 1; from < 22; from += 7) all.add("of " + t + " " + (from + s));
            for (int s = 0; s < t; s++) for (int i = 0; i < 2; i++) all.add("between " + s + " " + t + " " + i);
        }
        for (int law = -1; law < 6 && towns > 1; law++) all.add("compare " + law + " 0 1");
        return all;
    }

    private long[] refusals() {
        long[] all = new long[REFUSALS.size()];
        for (int i = 0; i < all.length; i++) all[i] = answer("count " + (8 + i));
        return all;
    }

    // ---- how a call is made

    private long call(String call) {
        calls.add(call);
        return answer(call);
    }

    /** Questions that change nothing need not stand among the calls that are made again on other objects. */
    private long answer(String call) {
        made++;
        if (made > MOST_CALLS) throw new IllegalStateException("more than " + MOST_CALLS + " calls");
        String[] words = call.split(" ");
        Method m = FACE.get(words[0]);
        if (m == null) throw new IllegalArgumentException(call);
        Object[] numbers = new Object[words.length - 1];
        for (int i = 0; i < numbers.length; i++) numbers[i] = Integer.parseInt(words[i + 1]);
        try {
            return ((Number) m.invoke(x, numbers)).longValue();
        } catch (IllegalAccessException | InvocationTargetException e) {
            throw new IllegalStateException(call + ": " + calls, e);
        }
    }

    private static List<String> expanded(String call) {
        int gap = call.indexOf(' ');
        String name = gap < 0 ? call : call.substring(0, gap);
        if (gap < 0 || !Set.of("law", "orders", "row", "tape").contains(name)) return List.of(call);
        String text = call.substring(gap + 1);
        if (name.equals("row")) text = bytes(text);
        List<String> all = new ArrayList<>(fed(text));
        if (!name.equals("tape")) all.add(name);
        return all;
    }

    private static String bytes(String numbers) {
        StringBuilder b = new StringBuilder();
        for (String n : numbers.split(" ")) b.append((char) Integer.parseInt(n));
        return b.toString();
    }

    private static List<String> fed(String text) {
        List<String> all = new ArrayList<>(List.of("end 0"));
        for (int i = 0; i < text.length(); i += 20) {
            int[] v = new int[5];
            for (int j = 0; j < 20 && i + j < text.length(); j++) v[j / 4] |= text.charAt(i + j) << 24 - 8 * (j % 4);
            all.add("feed " + v[0] + " " + v[1] + " " + v[2] + " " + v[3] + " " + v[4]);
        }
        all.add("end " + text.length());
        return all;
    }
}
