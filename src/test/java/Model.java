import java.util.ArrayList;
import java.util.Arrays;
import java.util.HashMap;
import java.util.List;
import java.util.Map;

/** A second telling of the document, slow and plain, by other ways than the class; ModelTest compares the two. */
final class Model {
    static final class Broken extends RuntimeException { }

    static final class Fault extends RuntimeException {
        final int place;
        Fault(int place) { this.place = place; }
    }

    interface Words { int value(String word, int number); }

    interface Node { long value(Words words); }

    static final class Clause {
        String kind;
        List<Node> sums = new ArrayList<>();
        Node test;
        int times = 1;
    }

    static final class State {
        int n = 0;
        int[] has = new int[7];
        int[] bells = new int[7];
        int[] hats = new int[7];
        int[][] had = new int[7][7];
        int[][] miles = new int[7][7];
        boolean[][] closed = new boolean[7][7];
        int[] terms = {0, 1, 0};
        List<int[]> heard = new ArrayList<>();
        List<List<Clause>> laws = new ArrayList<>();
        int force = -1;

        State copy() {
            State c = new State();
            c.n = n;
            c.has = has.clone();
            c.bells = bells.clone();
            c.hats = hats.clone();
            for (int i = 0; i < 7; i++) {
                c.had[i] = had[i].clone();
                c.miles[i] = miles[i].clone();
                c.closed[i] = closed[i].clone();
            }
            c.terms = terms.clone();
            c.heard = new ArrayList<>(heard);
            c.laws = new ArrayList<>(laws);
            c.force = force;
            return c;
        }

        int where(int sunday) {
            for (int t = 0; t < n; t++) if (has[t] == sunday) return t;
            throw new IllegalStateException();
        }

        boolean town(int t) { return t >= 0 && t < n; }

        List<Clause> law(int k) { return k == -1 ? List.of() : laws.get(k); }

        Words words(int town, int sunday, int place) {
            return (word, number) -> switch (word) {
                case "town" -> town;
                case "sunday" -> sunday;
                case "bells" -> bells[sunday];
                case "hats" -> hats[sunday];
                case "own" -> town == sunday ? 1 : 0;
                case "had" -> had[town][sunday];
                case "miles" -> place == town ? 0 : miles[town][place];
                case "year" -> terms[0];
                case "mood" -> terms[2];
                default -> throw new IllegalStateException(word);
            };
        }

        /** What the last such CLAUSE that HOLDS tells, or null. */
        Integer told(int law, String kind, int town, int sunday, int place) {
            Integer told = null;
            for (Clause c : law(law)) {
                if (!c.kind.equals(kind)) continue;
                Words w = words(town, sunday, place);
                try {
                    if (c.test != null && c.test.value(w) == 0) continue;
                    told = c.sums.isEmpty() ? Integer.valueOf(1) : Integer.valueOf((int) c.sums.get(0).value(w));
                } catch (Broken b) {
                    continue;
                }
            }
            return told;
        }

        int likes(int law, int town, int sunday) {
            Integer told = told(law, "likes", town, sunday, where(sunday));
            return told == null ? bells[sunday] : Math.max(0, Math.min(99, told));
        }

        int likes(int town, int sunday) { return likes(force, town, sunday); }

        int alters(int sunday) {
            Integer told = told(force, "alters", where(sunday), sunday, where(sunday));
            return told == null ? bells[sunday] : Math.max(0, Math.min(9, told));
        }

        boolean sent(int sunday, int from, int to) {
            return from != to && miles[from][to] > 0 && !closed[from][to] && told(force, "bars", to, sunday, from) == null;
        }

        boolean may(int sunday, int to) { return where(sunday) == to || sent(sunday, where(sunday), to); }

        int homes() {
            int k = 0;
            for (int t = 0; t < n; t++) if (has[t] == t) k++;
            return k;
        }

        int swap(int a, int b) {
            if (a == b) return -1;
            if (!town(a) || !town(b)) return -2;
            if (!sent(has[a], a, b) || !sent(has[b], b, a)) return -3;
            int h = has[a];
            has[a] = has[b];
            has[b] = h;
            return has[a];
        }

        int round(int a, int b, int c) {
            if (a == b || b == c || a == c) return -1;
            if (!town(a) || !town(b) || !town(c)) return -2;
            if (!sent(has[a], a, b) || !sent(has[b], b, c) || !sent(has[c], c, a)) return -3;
            int[] was = has.clone();
            has[b] = was[a];
            has[c] = was[b];
            has[a] = was[c];
            return has[a];
        }

        int close(int a, int b) {
            if (a == b) return -1;
            if (!town(a) || !town(b)) return -2;
            if (miles[a][b] == 0) return -3;
            closed[a][b] = !closed[a][b];
            closed[b][a] = closed[a][b];
            return closed[a][b] ? 1 : 0;
        }

        int pass() {
            if (terms[0] == 999) return -3;
            State was = copy();
            int all = 0;
            for (int t = 0; t < n; t++) all += was.likes(t, has[t]);
            for (int t = 0; t < n; t++) had[t][has[t]] = Math.min(99, had[t][has[t]] + 1);
            for (int s = 0; s < n; s++) bells[s] = was.alters(s);
            terms[0]++;
            return all;
        }
    }

    // ---- reading

    static final class Token {
        final String text;
        final int place;
        Token(String text, int place) { this.text = text; this.place = place; }
    }

    static final class Parser {
        final List<Token> tokens = new ArrayList<>();
        final boolean orders;
        int i = 0;
        int parts = 0;
        int open = 0;

        Parser(List<Integer> tape, boolean orders) {
            this.orders = orders;
            int p = 0;
            while (p < tape.size()) {
                int from = p;
                if (tape.get(p) == 32) { p++; continue; }
                if (letter(tape.get(p))) while (p < tape.size() && letter(tape.get(p))) p++;
                else if (digit(tape.get(p))) while (p < tape.size() && digit(tape.get(p))) p++;
                else p++;
                StringBuilder b = new StringBuilder();
                for (int q = from; q < p; q++) b.append((char) (int) tape.get(q));
                tokens.add(new Token(b.toString(), from));
            }
            tokens.add(new Token("", tape.size()));
        }

        static boolean letter(int c) { return c >= 97 && c <= 122; }
        static boolean digit(int c) { return c >= 48 && c <= 57; }

        String peek() { return tokens.get(i).text; }
        Fault fault() { return new Fault(tokens.get(i).place); }
        boolean eat(String s) {
            if (!peek().equals(s)) return false;
            i++;
            return true;
        }
        void need(String s) { if (!eat(s)) throw fault(); }

        int number(int least, int most) {
            String t = peek();
            if (t.isEmpty() || !digit(t.charAt(0))) throw fault();
            java.math.BigInteger v = new java.math.BigInteger(t);
            if (v.compareTo(java.math.BigInteger.valueOf(least)) < 0 || v.compareTo(java.math.BigInteger.valueOf(most)) > 0) throw fault();
            i++;
            return v.intValue();
        }

        List<Clause> text() {
            List<Clause> all = new ArrayList<>();
            all.add(clause());
            while (eat(";")) {
                if (all.size() == 12) throw fault();
                all.add(clause());
            }
            if (i != tokens.size() - 1) throw fault();
            return all;
        }

        Clause clause() {
            Clause c = new Clause();
            c.kind = peek();
            List<String> kinds = orders ? List.of("swap", "round", "road", "pass") : List.of("likes", "alters", "bars");
            if (!kinds.contains(c.kind)) throw fault();
            i++;
            switch (c.kind) {
                case "likes", "alters" -> c.sums.add(sum());
                case "swap" -> { c.sums.add(sum()); need("with"); c.sums.add(sum()); }
                case "road" -> { c.sums.add(sum()); need("to"); c.sums.add(sum()); }
                case "round" -> { c.sums.add(sum()); need("to"); c.sums.add(sum()); need("to"); c.sums.add(sum()); }
                default -> { }
            }
            if (orders && eat("times")) c.times = number(1, 20);
            if (eat("if")) c.test = test();
            return c;
        }

        Node test() {
            Node left = both();
            while (eat("or")) {
                Node a = left;
                Node b = both();
                left = w -> a.value(w) == 1 ? 1 : b.value(w);
            }
            return left;
        }

        Node both() {
            Node left = plain();
            while (eat("and")) {
                Node a = left;
                Node b = plain();
                left = w -> a.value(w) == 0 ? 0 : b.value(w);
            }
            return left;
        }

        Node plain() {
            if (eat("not")) {
                Node a = plain();
                return w -> 1 - a.value(w);
            }
            if (peek().equals("(")) {
                enter();
                Node a = test();
                need(")");
                open--;
                return a;
            }
            Node a = sum();
            String sign = peek();
            if (!List.of("<", ">", "=").contains(sign)) throw fault();
            i++;
            Node b = sum();
            return w -> {
                long x = a.value(w);
                long y = b.value(w);
                return (sign.equals("<") ? x < y : sign.equals(">") ? x > y : x == y) ? 1 : 0;
            };
        }

        void enter() {
            if (open == 8) throw fault();
            open++;
            i++;
        }

        Node sum() {
            Node left = term();
            while (peek().equals("+") || peek().equals("-")) {
                Node a = left;
                boolean plus = eat("+");
                if (!plus) need("-");
                Node b = term();
                left = w -> within(plus ? a.value(w) + b.value(w) : a.value(w) - b.value(w));
            }
            return left;
        }

        Node term() {
            Node left = part();
            while (List.of("*", "/", "%").contains(peek())) {
                Node a = left;
                String sign = peek();
                i++;
                Node b = part();
                left = w -> {
                    long x = a.value(w);
                    long y = b.value(w);
                    if (sign.equals("*")) return within(x * y);
                    if (y == 0) throw new Broken();
                    return sign.equals("/") ? x / y : x % y;
                };
            }
            return left;
        }

        static long within(long v) {
            if (Math.abs(v) > 1_000_000_000L) throw new Broken();
            return v;
        }

        Node part() {
            if (peek().equals("[")) {
                enter();
                Node a = sum();
                need("]");
                open--;
                return a;
            }
            parts++;
            if (parts > 50) throw fault();
            String t = peek();
            if (!t.isEmpty() && digit(t.charAt(0))) {
                int v = number(0, 1000);
                return w -> v;
            }
            if (orders && (t.equals("has") || t.equals("bells"))) {
                i++;
                int v = number(0, 6);
                return w -> w.value(t, v);
            }
            List<String> words = orders ? List.of("year", "done", "latest", "home")
                : List.of("town", "sunday", "bells", "hats", "own", "had", "miles", "year", "mood");
            if (!words.contains(t)) throw fault();
            i++;
            return w -> w.value(t, 0);
        }
    }

    // ---- the face

    State s = new State();
    State[] images = new State[2];
    State century = null;
    List<State> past = new ArrayList<>();
    List<Integer> pastKinds = new ArrayList<>();
    List<Integer> tape = new ArrayList<>();
    Map<Integer, Integer> refusals = new HashMap<>();
    int status = 0;
    int sidings = 0;
    int fault = -1;
    int stopped = -1;

    int no(int by) {
        status = by;
        refusals.merge(by, 1, Integer::sum);
        return by;
    }

    int yes(int v) {
        status = 0;
        return v;
    }

    void clearPast() {
        past.clear();
        pastKinds.clear();
    }

    void keep(State was, int kind) {
        past.add(was);
        pastKinds.add(kind);
        if (past.size() > 16) {
            past.remove(0);
            pastKinds.remove(0);
        }
    }

    int town(int bells, int hats) {
        if (bells < 0 || bells > 9 || hats < 0 || hats > 9) return no(-1);
        if (s.n == 7) return no(-5);
        s.bells[s.n] = bells;
        s.hats[s.n] = hats;
        s.has[s.n] = s.n;
        s.n++;
        clearPast();
        return yes(s.n - 1);
    }

    int of(int town, int what) {
        if (!s.town(town)) return -1;
        if (what == 0) return s.has[town];
        if (what >= 1 && what <= 7 && s.town(what - 1)) return s.likes(town, what - 1);
        if (what >= 8 && what <= 14 && s.town(what - 8)) return s.had[town][what - 8];
        if (what >= 15 && what <= 21 && s.town(what - 15)) return s.may(what - 15, town) ? 1 : 0;
        return -1;
    }

    int sunday(int k, int what) {
        if (!s.town(k)) return -1;
        return what == 0 ? s.where(k) : what == 1 ? s.bells[k] : what == 2 ? s.hats[k] : what == 3 ? s.alters(k) : -1;
    }

    void setRoad(int a, int b, int m) {
        s.miles[a][b] = m;
        s.miles[b][a] = m;
        s.closed[a][b] = false;
        s.closed[b][a] = false;
    }

    int road(int a, int b, int m) {
        if (m < 0 || m > 99 || a == b) return no(-1);
        if (!s.town(a) || !s.town(b)) return no(-2);
        int was = s.miles[a][b];
        setRoad(a, b, m);
        clearPast();
        return yes(was);
    }

    int between(int a, int b, int what) {
        if (a == b || !s.town(a) || !s.town(b)) return -1;
        return what == 0 ? s.miles[a][b] : what == 1 ? (s.closed[a][b] ? 1 : 0) : -1;
    }

    int terms(int what, int v) {
        if (what < 0 || what > 2 || v < 0 || v > (what == 0 ? 999 : what == 1 ? 10 : 9)) return no(-1);
        int was = s.terms[what];
        s.terms[what] = v;
        clearPast();
        return yes(was);
    }

    int feed(int... five) {
        if (tape.size() > 380) return -1;
        for (int v : five) for (int k = 3; k >= 0; k--) tape.add((int) ((v & 0xFFFFFFFFL) >> 8 * k) & 255);
        return tape.size();
    }

    int end(int n) {
        if (n < 0 || n > tape.size()) return -1;
        tape = new ArrayList<>(tape.subList(0, n));
        return n;
    }

    int row() {
        if (tape.isEmpty()) return no(-6);
        int told = 0;
        sidings = 0;
        for (int i = 0; i < tape.size(); i += 3) {
            if (i + 3 > tape.size()) {
                sidings++;
                continue;
            }
            int a = tape.get(i);
            int b = tape.get(i + 1);
            int m = tape.get(i + 2);
            if (a == b || a >= s.n || b >= s.n || m > 99) sidings++;
            else {
                setRoad(a, b, m);
                told++;
            }
        }
        tape.clear();
        clearPast();
        return yes(told);
    }

    List<Clause> read(boolean orders) {
        List<Integer> fed = new ArrayList<>(tape);
        tape.clear();
        fault = -1;
        try {
            return new Parser(fed, orders).text();
        } catch (Fault f) {
            fault = f.place;
            return null;
        }
    }

    int law() {
        if (s.laws.size() == 6) {
            tape.clear();
            return no(-5);
        }
        List<Clause> law = read(false);
        if (law == null) return no(-6);
        s.laws.add(law);
        return yes(s.laws.size() - 1);
    }

    int done;
    int latest;

    int orders() {
        List<Clause> text = read(true);
        stopped = -1;
        if (text == null) return no(-6);
        State was = s.copy();
        List<State> pastWas = new ArrayList<>(past);
        List<Integer> kindsWere = new ArrayList<>(pastKinds);
        done = 0;
        latest = -1;
        for (int c = 0; c < text.size(); c++) {
            for (int k = 0; k < text.get(c).times; k++) {
                if (!run(text.get(c))) {
                    s = was;
                    past = pastWas;
                    pastKinds = kindsWere;
                    stopped = c;
                    return no(-3);
                }
            }
        }
        return yes(done);
    }

    boolean run(Clause c) {
        Words w = (word, t) -> switch (word) {
            case "year" -> s.terms[0];
            case "done" -> done;
            case "latest" -> latest;
            case "home" -> s.homes();
            case "has" -> s.town(t) ? s.has[t] : -1;
            case "bells" -> s.town(t) ? s.bells[t] : -1;
            default -> throw new IllegalStateException(word);
        };
        try {
            if (c.test != null && c.test.value(w) != 1) return true;
        } catch (Broken b) {
            return true;
        }
        int[] v = new int[3];
        try {
            for (int i = 0; i < c.sums.size(); i++) v[i] = (int) c.sums.get(i).value(w);
        } catch (Broken b) {
            return false;
        }
        State was = s.copy();
        int kind = List.of("swap", "round", "road", "pass").indexOf(c.kind);
        int told = kind == 0 ? s.swap(v[0], v[1]) : kind == 1 ? s.round(v[0], v[1], v[2]) : kind == 2 ? s.close(v[0], v[1]) : s.pass();
        if (told < 0) return false;
        keep(was, kind);
        done++;
        if (kind == 3) latest = told;
        return true;
    }

    int fault() { return fault; }
    int stopped() { return stopped; }
    int sidings() { return sidings; }

    int force(int law) {
        if (law < -1 || law >= s.laws.size()) return no(-2);
        int was = s.force;
        s.force = law;
        return yes(was);
    }

    int moved(State was, int kind, int told) {
        if (told < 0) return no(told);
        keep(was, kind);
        return yes(told);
    }

    int swap(int a, int b) { State was = s.copy(); return moved(was, 0, s.swap(a, b)); }
    int round(int a, int b, int c) { State was = s.copy(); return moved(was, 1, s.round(a, b, c)); }
    int close(int a, int b) { State was = s.copy(); return moved(was, 2, s.close(a, b)); }
    int pass() { State was = s.copy(); return moved(was, 3, s.pass()); }

    int undo() {
        if (past.isEmpty()) return no(-3);
        State was = past.remove(past.size() - 1);
        s.has = was.has;
        s.bells = was.bells;
        s.had = was.had;
        s.closed = was.closed;
        s.terms = was.terms;
        return yes(pastKinds.remove(pastKinds.size() - 1));
    }

    List<Integer> ring(int town) {
        List<Integer> ring = new ArrayList<>();
        int t = town;
        do {
            ring.add(t);
            t = s.where(t);
        } while (t != town);
        return ring;
    }

    int rings(int town) {
        if (town == -1) {
            int lowest = 0;
            for (int t = 0; t < s.n; t++) if (java.util.Collections.min(ring(t)) == t) lowest++;
            return lowest;
        }
        return s.town(town) ? ring(town).size() : -1;
    }

    int repeated() {
        int[] at = new int[s.n];
        for (int k = 0; k < s.n; k++) at[k] = s.where(k);
        for (int times = 1; ; times++) {
            boolean home = true;
            for (int k = 0; k < s.n; k++) home &= at[k] == k;
            if (home) return times;
            for (int k = 0; k < s.n; k++) at[k] = s.where(at[k]);
        }
    }

    /** All arrangements in their order, as rows. */
    void arrangements(int[] row, int town, List<int[]> all) {
        if (town == s.n) {
            all.add(row.clone());
            return;
        }
        for (int k = 0; k < s.n; k++) {
            boolean used = false;
            for (int t = 0; t < town; t++) used |= row[t] == k;
            if (used || !s.may(k, town)) continue;
            row[town] = k;
            arrangements(row, town + 1, all);
        }
    }

    List<int[]> arrangements() {
        List<int[]> all = new ArrayList<>();
        arrangements(new int[s.n], 0, all);
        return all;
    }

    int mostLiked(int i) {
        if (i < -1 || i >= s.n) return -1;
        int[][] likes = new int[s.n][s.n];
        for (int t = 0; t < s.n; t++) for (int k = 0; k < s.n; k++) likes[t][k] = s.likes(t, k);
        int most = -1;
        int[] best = null;
        for (int[] row : arrangements()) {
            int all = 0;
            for (int t = 0; t < s.n; t++) all += likes[t][row[t]];
            if (all > most) {
                most = all;
                best = row;
            }
        }
        return i == -1 ? most : best[i];
    }

    List<int[]> newArrangements() {
        List<int[]> all = arrangements();
        all.removeIf(row -> {
            for (int t = 0; t < s.n; t++) if (s.had[t][row[t]] > 0) return true;
            return false;
        });
        return all;
    }

    int anew(int i) {
        if (i < -1 || i >= s.n) return -1;
        int least = Integer.MAX_VALUE;
        int[] best = null;
        for (int[] row : newArrangements()) {
            int all = 0;
            for (int t = 0; t < s.n; t++) all += s.has[t] == row[t] ? 0 : s.miles[s.where(row[t])][t];
            if (all < least) {
                least = all;
                best = row;
            }
        }
        return best == null ? -1 : i == -1 ? least : best[i];
    }

    int newOnes() { return newArrangements().size(); }

    static boolean ahead(List<Integer> a, List<Integer> b) {
        for (int i = 0; i < a.size(); i++) {
            int c = a.get(i).compareTo(b.get(i));
            if (c != 0) return c < 0;
        }
        return false;
    }

    List<Integer> wayHome() {
        boolean[][][] sent = new boolean[7][7][7];
        for (int k = 0; k < s.n; k++) for (int a = 0; a < s.n; a++) for (int b = 0; b < s.n; b++) sent[k][a][b] = s.sent(k, a, b);
        List<Integer> home = new ArrayList<>();
        List<Integer> start = new ArrayList<>();
        for (int t = 0; t < s.n; t++) {
            home.add(t);
            start.add(s.has[t]);
        }
        Map<List<Integer>, List<Integer>> seen = new HashMap<>();
        Map<List<Integer>, List<Integer>> level = new HashMap<>();
        level.put(start, new ArrayList<>());
        while (!level.isEmpty()) {
            if (level.containsKey(home)) return level.get(home);
            seen.putAll(level);
            Map<List<Integer>, List<Integer>> next = new HashMap<>();
            for (Map.Entry<List<Integer>, List<Integer>> e : level.entrySet()) {
                for (int b = 1; b < s.n; b++) for (int a = 0; a < b; a++) {
                    if (!sent[e.getKey().get(a)][a][b] || !sent[e.getKey().get(b)][b][a]) continue;
                    List<Integer> to = new ArrayList<>(e.getKey());
                    java.util.Collections.swap(to, a, b);
                    if (seen.containsKey(to)) continue;
                    List<Integer> way = new ArrayList<>(e.getValue());
                    way.add(7 * a + b);
                    if (!next.containsKey(to) || ahead(way, next.get(to))) next.put(to, way);
                }
            }
            level = next;
        }
        return null;
    }

    int home(int i) {
        List<Integer> way = wayHome();
        if (way == null || i < -1 || i >= way.size()) return -1;
        return i == -1 ? way.size() : way.get(i);
    }

    int market(int town) {
        if (!s.town(town)) return -1;
        Integer[] got = new Integer[s.n];
        while (got[town] == null) {
            // One ring at a time: it is come to by going from any TOWN on often enough.
            int t = 0;
            while (got[t] != null) t++;
            for (int i = 0; i < 50; i++) t = s.where(wish(t, got));
            int first = t;
            List<Integer> ring = new ArrayList<>();
            do {
                ring.add(t);
                t = s.where(wish(t, got));
            } while (t != first);
            int[] wishes = new int[7];
            for (int r : ring) wishes[r] = wish(r, got);
            for (int r : ring) got[r] = wishes[r];
        }
        return got[town];
    }

    int wish(int t, Integer[] got) {
        int best = -1;
        for (int k = 0; k < s.n; k++) {
            if (got[s.where(k)] != null || !s.may(k, t)) continue;
            if (best == -1 || s.likes(t, k) > s.likes(t, best)) best = k;
        }
        return best;
    }

    int bargains(int i) {
        List<Integer> all = new ArrayList<>();
        for (int a = 0; a < s.n; a++) for (int b = a + 1; b < s.n; b++) {
            boolean can = s.copy().swap(a, b) >= 0;
            if (can && s.likes(a, s.has[b]) > s.likes(a, s.has[a]) && s.likes(b, s.has[a]) > s.likes(b, s.has[b])) all.add(7 * a + b);
        }
        return i == -1 ? all.size() : i >= 0 && i < all.size() ? all.get(i) : -1;
    }

    int envy(int town) {
        if (!s.town(town)) return -1;
        int bits = 0;
        for (int k = 0; k < s.n; k++) if (s.likes(town, k) > s.likes(town, s.has[town])) bits += 1 << s.where(k);
        return bits;
    }

    int heard(int k, int n) {
        if (n < 0 || n > 99) return no(-1);
        if (!s.town(k)) return no(-2);
        if (s.heard.size() == 6) return no(-5);
        s.heard.add(new int[] {k, n});
        return yes(s.heard.size());
    }

    int forget() {
        int was = s.heard.size();
        s.heard.clear();
        return was;
    }

    int canBe() {
        int bits = 0;
        for (int t = 0; t < s.n; t++) {
            int town = t;
            if (s.heard.stream().allMatch(h -> s.likes(town, h[0]) == h[1])) bits |= 1 << t;
        }
        return bits;
    }

    int ask(int what) {
        int can = canBe();
        if (can == 0 || what < 0 || what > 1) return -1;
        int best = -1;
        int least = 99;
        for (int k = 0; k < s.n; k++) {
            Map<Integer, Integer> groups = new HashMap<>();
            for (int t = 0; t < s.n; t++) if ((can >> t & 1) == 1) groups.merge(s.likes(t, k), 1, Integer::sum);
            int most = java.util.Collections.max(groups.values());
            if (most < least) {
                least = most;
                best = k;
            }
        }
        return what == 0 ? best : least;
    }

    long few(int k, int n) {
        if (k < 1 || k > 20 || n < 0 || n > 99) return -1;
        long[] p = new long[n + 2];
        p[0] = 1_000_000_000_000L;
        for (int v = 0; v < n; v++) {
            long[] q = new long[n + 2];
            for (int j = 0; j <= v; j++) {
                q[j] += p[j] * (10 - s.terms[1]) / 10;
                q[j + 1] += p[j] * s.terms[1] / 10;
            }
            p = q;
        }
        long all = 0;
        for (int j = 0; j < Math.min(k, p.length); j++) all += p[j];
        return all;
    }

    int compare(int law, int t, int k) {
        if (law < -1 || law >= s.laws.size() || !s.town(t) || !s.town(k)) return -1;
        return s.likes(law, t, k);
    }

    long seed;

    int draw(int m) {
        seed = (seed * 1103 + 12345) % 1_000_003;
        return (int) (seed % m);
    }

    int centuries(int with, int n) {
        if (with < 0 || with > 1_000_000 || n < 1 || n > 60) return no(-1);
        if (s.n == 0) return no(-3);
        century = s.copy();
        seed = with;
        for (int i = 0; i < n && century.terms[0] < 999; i++) {
            int a = draw(s.n);
            int b = draw(s.n);
            int c = draw(s.n);
            int d = draw(4);
            if (d <= 1) century.swap(a, b);
            if (d == 2) century.round(a, b, c);
            century.pass();
        }
        return yes(century.homes());
    }

    int drawn(int k, int what) {
        if (century == null || !century.town(k)) return -1;
        return what == 0 ? century.has[k] : what == 1 ? century.bells[k] : -1;
    }

    int image(int k) {
        if (k < 0 || k > 1) return no(-1);
        images[k] = s.copy();
        return yes(0);
    }

    int back(int k) {
        if (k < 0 || k > 1) return no(-1);
        if (images[k] == null) return no(-2);
        s = images[k].copy();
        clearPast();
        return yes(0);
    }

    int count(int what) {
        int roads = 0;
        int closed = 0;
        for (int a = 0; a < s.n; a++) for (int b = 0; b < a; b++) {
            if (s.miles[a][b] > 0) roads++;
            if (s.closed[a][b]) closed++;
        }
        int[] all = {s.n, s.homes(), roads, closed, s.heard.size(), s.laws.size(), past.size(), tape.size(),
            refusals.getOrDefault(-1, 0), refusals.getOrDefault(-2, 0), refusals.getOrDefault(-3, 0),
            refusals.getOrDefault(-5, 0), refusals.getOrDefault(-6, 0), s.force, s.terms[0], s.terms[1], s.terms[2]};
        return what >= 0 && what < all.length ? all[what] : -1;
    }

    int status() { return status; }

    @Override
    public String toString() { return Arrays.toString(s.has) + " year " + s.terms[0]; }
}
