import java.util.ArrayList;
import java.util.List;
import java.util.Random;

/** Runs of drawn calls: the class and the Model answer alike, call by call, and what stands behind is alike. */
public final class ModelTest {
    private static final String[] LAW_WORDS = {"town", "sunday", "bells", "hats", "own", "had", "miles", "year", "mood"};
    private static final String[] ORDER_WORDS = {"year", "done", "latest", "home", "has 0", "has 3", "bells 1", "bells 6", "has 2"};

    private final Random random;
    private final TownSundays x = new TownSundays();
    private final Model m = new Model();
    private final List<String> calls = new ArrayList<>();
    private int left = 512;
    private boolean wrong = false;

    private ModelTest(long seed) { random = new Random(seed); }

    public static void main(String[] args) {
        int runs = args.length > 0 ? Integer.parseInt(args[0]) : 1500;
        long first = args.length > 1 ? Long.parseLong(args[1]) : 1;
        int bad = 0;
        for (long seed = first; seed < first + runs && bad < 3; seed++) {
            ModelTest t = new ModelTest(seed);
            t.run();
            if (t.wrong) {
                bad++;
                System.out.println("run of seed " + seed + ":");
                for (String c : t.calls) System.out.println("  " + c);
            }
        }
        for (long seed = first; seed < first + runs / 20 && bad < 3; seed++) {
            ModelTest t = new ModelTest(seed);
            t.homeOfMany();
            if (t.wrong) {
                bad++;
                System.out.println("way home of seed " + seed + ":");
                for (String c : t.calls) System.out.println("  " + c);
            }
        }
        System.out.println(bad == 0 ? runs + " drawn runs are answered alike" : "drawn runs differ");
        if (bad != 0) System.exit(1);
    }

    private void due(String call, long got, long want) {
        left--;
        calls.add(call + " -> " + got + (got == want ? "" : ", due is " + want));
        wrong |= got != want;
    }

    private int upTo(int n) { return random.nextInt(n); }
    private boolean rarely(int n) { return random.nextInt(n) == 0; }
    private int townNumber() { return rarely(25) ? upTo(12) - 3 : upTo(Math.max(1, m.s.n)); }

    private void run() {
        boolean lush = !rarely(4);
        int towns = lush ? 2 + upTo(6) : upTo(4);
        for (int i = 0; i < towns; i++) town();
        for (int i = 0; i < (lush ? 14 : 2) && towns > 1; i++) road();
        if (lush && towns > 1) row();
        for (int i = 0; i < upTo(3); i++) text(false);
        if (m.s.laws.size() > 0) force();
        int calls = lush ? 420 : 150;
        for (int i = 0; i < calls && left > 12 && !wrong; i++) one();
    }

    /** Ways home of six and seven TOWNS, which the other runs seldom ask for. */
    private void homeOfMany() {
        int towns = 6 + upTo(2);
        for (int i = 0; i < towns; i++) { x.town(i, 0); m.town(i, 0); }
        for (int a = 0; a < towns; a++) for (int b = 0; b < a; b++) {
            if (upTo(10) < 6) { x.road(a, b, 1); m.road(a, b, 1); }
        }
        for (int i = 0; i < 30; i++) { int a = upTo(towns); int b = upTo(towns); due("swap(" + a + "," + b + ")", x.swap(a, b), m.swap(a, b)); }
        if (rarely(2)) {
            text(false);
            force();
        }
        List<Integer> way = m.wayHome();
        int length = way == null ? -1 : way.size();
        due("home(-1)", x.home(-1), length);
        for (int i = 0; i < length; i++) due("home(" + i + ")", x.home(i), way.get(i));
    }

    private void one() {
        int pick = upTo(100);
        if (pick < 2) town();
        else if (pick < 4) road();
        else if (pick < 5) { int w = rarely(8) ? upTo(9) - 3 : upTo(3); int v = rarely(4) ? upTo(1010) - 5 : w == 0 ? (rarely(3) ? 990 + upTo(10) : upTo(5)) : upTo(11); due("terms(" + w + "," + v + ")", x.terms(w, v), m.terms(w, v)); }
        else if (pick < 6) row();
        else if (pick < 9) text(false);
        else if (pick < 14) text(true);
        else if (pick < 16) force();
        else if (pick < 28) { int a = townNumber(); int b = townNumber(); due("swap(" + a + "," + b + ")", x.swap(a, b), m.swap(a, b)); }
        else if (pick < 34) { int a = townNumber(); int b = townNumber(); int c = townNumber(); due("round(" + a + "," + b + "," + c + ")", x.round(a, b, c), m.round(a, b, c)); }
        else if (pick < 37) { int a = townNumber(); int b = townNumber(); due("close(" + a + "," + b + ")", x.close(a, b), m.close(a, b)); }
        else if (pick < 43) due("pass()", x.pass(), m.pass());
        else if (pick < 47) due("undo()", x.undo(), m.undo());
        else if (pick < 49) { int s = townNumber(); int n = m.s.town(s) && !rarely(4) ? m.of(upTo(m.s.n), 1 + s) : upTo(110) - 5; due("heard(" + s + "," + n + ")", x.heard(s, n), m.heard(s, n)); }
        else if (rarely(40)) due("forget()", x.forget(), m.forget());
        else if (pick < 51) { int s = rarely(8) ? upTo(3000000) - 1000000 : upTo(1000001); int n = rarely(8) ? upTo(80) - 5 : 1 + upTo(60); due("centuries(" + s + "," + n + ")", x.centuries(s, n), m.centuries(s, n)); }
        else if (pick < 52) { int k = rarely(6) ? upTo(5) - 2 : upTo(2); due("image(" + k + ")", x.image(k), m.image(k)); }
        else if (pick < 53) { int k = rarely(6) ? upTo(5) - 2 : upTo(2); if (rarely(2)) due("back(" + k + ")", x.back(k), m.back(k)); }
        else look();
    }

    private void look() {
        int i = upTo(10) - 2;
        switch (upTo(21)) {
            case 0 -> { int w = upTo(25) - 1; int t = townNumber(); due("of(" + t + "," + w + ")", x.of(t, w), m.of(t, w)); }
            case 1 -> { int w = upTo(6) - 1; int t = townNumber(); due("sunday(" + t + "," + w + ")", x.sunday(t, w), m.sunday(t, w)); }
            case 2 -> { int a = townNumber(); int b = townNumber(); int w = upTo(4) - 1; due("between(" + a + "," + b + "," + w + ")", x.between(a, b, w), m.between(a, b, w)); }
            case 3 -> due("rings(" + i + ")", x.rings(i), m.rings(i));
            case 4 -> due("repeated()", x.repeated(), m.repeated());
            case 5 -> due("mostLiked(" + i + ")", x.mostLiked(i), m.mostLiked(i));
            case 6 -> due("anew(" + i + ")", x.anew(i), m.anew(i));
            case 7 -> due("newOnes()", x.newOnes(), m.newOnes());
            case 8 -> { if (m.s.n < 6 || rarely(4)) due("home(" + i + ")", x.home(i), m.home(i)); }
            case 9 -> due("market(" + i + ")", x.market(i), m.market(i));
            case 10 -> due("bargains(" + i + ")", x.bargains(i), m.bargains(i));
            case 11 -> due("envy(" + i + ")", x.envy(i), m.envy(i));
            case 12 -> due("canBe()", x.canBe(), m.canBe());
            case 13 -> { int w = rarely(8) ? upTo(5) - 2 : upTo(2); due("ask(" + w + ")", x.ask(w), m.ask(w)); }
            case 14 -> { int k = upTo(23) - 1; int n = upTo(104) - 2; due("few(" + k + "," + n + ")", x.few(k, n), m.few(k, n)); }
            case 15 -> { int l = upTo(9) - 2; int t = townNumber(); int s = townNumber(); due("compare(" + l + "," + t + "," + s + ")", x.compare(l, t, s), m.compare(l, t, s)); }
            case 16 -> { int w = upTo(4) - 1; due("drawn(" + i + "," + w + ")", x.drawn(i, w), m.drawn(i, w)); }
            case 17, 18 -> { int w = upTo(20) - 2; due("count(" + w + ")", x.count(w), m.count(w)); }
            case 19 -> due("status()", x.status(), m.status());
            default -> {
                due("fault()", x.fault(), m.fault());
                due("stopped()", x.stopped(), m.stopped());
                due("sidings()", x.sidings(), m.sidings());
            }
        }
    }

    private void town() { int b = rarely(12) ? upTo(20) - 5 : upTo(10); int h = rarely(12) ? upTo(20) - 5 : upTo(10); due("town(" + b + "," + h + ")", x.town(b, h), m.town(b, h)); }

    private void road() { int a = townNumber(); int b = townNumber(); int k = rarely(10) ? upTo(130) - 10 : upTo(30); due("road(" + a + "," + b + "," + k + ")", x.road(a, b, k), m.road(a, b, k)); }

    private void force() { int l = rarely(6) ? upTo(10) - 3 : upTo(Math.max(1, m.s.laws.size())); due("force(" + l + ")", x.force(l), m.force(l)); }

    private void row() {
        StringBuilder b = new StringBuilder();
        int n = upTo(12);
        for (int i = 0; i < n; i++) b.append((char) upTo(8)).append((char) upTo(8)).append((char) (rarely(6) ? upTo(256) : upTo(40)));
        for (int i = 0; i < upTo(3); i++) b.append((char) upTo(3));
        feed(b.toString());
        due("row()", x.row(), m.row());
    }

    private void feed(String text) {
        for (int i = 0; i < text.length() && left > 3; i += 20) {
            int[] v = new int[5];
            for (int j = 0; j < 20; j++) {
                int at = i + j;
                int c = at < text.length() ? text.charAt(at) : 0;
                v[j / 4] |= c << 24 - 8 * (j % 4);
            }
            due("feed(" + v[0] + "," + v[1] + "," + v[2] + "," + v[3] + "," + v[4] + ")", x.feed(v[0], v[1], v[2], v[3], v[4]), m.feed(v));
        }
        int n = rarely(30) ? upTo(450) - 20 : Math.min(text.length(), m.tape.size());
        due("end(" + n + ")", x.end(n), m.end(n));
    }

    private void text(boolean orders) {
        StringBuilder b = new StringBuilder();
        int clauses = rarely(25) ? 10 + upTo(5) : 1 + upTo(4);
        for (int i = 0; i < clauses; i++) {
            if (i > 0) b.append(';');
            if (orders) order(b);
            else rule(b);
        }
        String text = b.toString();
        if (rarely(4)) text = spoiled(text);
        if (text.length() > 400) text = text.substring(0, 400);
        calls.add("text: " + text);
        feed(text);
        if (orders) due("orders()", x.orders(), m.orders());
        else due("law()", x.law(), m.law());
        if (rarely(2)) due("fault()", x.fault(), m.fault());
    }

    private String spoiled(String text) {
        String[] bits = {" ", "if", ")", "(", "[", "]", ";", "+", "not ", "1001", "1000", "7", " to ", " times 3", "has", "<", "or", "and", "" + (char) 200, "A", "*", "0"};
        int at = upTo(text.length() + 1);
        String bit = bits[upTo(bits.length)];
        if (rarely(2)) return text.substring(0, at) + bit + text.substring(at);
        int to = Math.min(text.length(), at + 1 + upTo(4));
        return text.substring(0, at) + text.substring(to);
    }

    private void rule(StringBuilder b) {
        int kind = upTo(3);
        b.append(kind == 0 ? "likes " : kind == 1 ? "alters " : "bars");
        if (kind < 2) sum(b, false, 0);
        if (!rarely(3) || kind == 2) {
            b.append(" if ");
            test(b, false, 0);
        }
    }

    private void order(StringBuilder b) {
        int kind = upTo(5);
        if (kind == 0) { b.append("swap "); place(b); b.append(" with "); place(b); }
        else if (kind == 1) { b.append("round "); place(b); b.append(" to "); place(b); b.append(" to "); place(b); }
        else if (kind == 2) { b.append("road "); place(b); b.append(" to "); place(b); }
        else b.append("pass");
        if (rarely(3)) b.append(" times ").append(1 + upTo(rarely(4) ? 21 : 4));
        if (rarely(2)) {
            b.append(" if ");
            test(b, true, 0);
        }
    }

    private void place(StringBuilder b) {
        if (rarely(5)) sum(b, true, 1);
        else b.append(upTo(Math.max(2, m.s.n)));
    }

    private void test(StringBuilder b, boolean orders, int deep) {
        int n = rarely(3) ? 2 + upTo(2) : 1;
        for (int i = 0; i < n; i++) {
            if (i > 0) b.append(rarely(2) ? " or " : " and ");
            for (int k = 0; k < 3 && rarely(5); k++) b.append("not ");
            if (deep < 9 && rarely(6)) {
                int more = rarely(20) ? 8 : 1;
                for (int k = 0; k < more; k++) b.append('(');
                test(b, orders, deep + more);
                for (int k = 0; k < more; k++) b.append(')');
            } else {
                sum(b, orders, deep);
                b.append(" <>= <".charAt(1 + upTo(3)));
                sum(b, orders, deep);
            }
        }
    }

    private void sum(StringBuilder b, boolean orders, int deep) {
        int n = rarely(2) ? 1 + upTo(3) : 1;
        for (int i = 0; i < n; i++) {
            if (i > 0) b.append("+-*/%".charAt(upTo(5)));
            if (rarely(8)) b.append(' ');
            if (deep < 9 && rarely(8)) {
                b.append('[');
                sum(b, orders, deep + 1);
                b.append(']');
            } else if (rarely(2)) {
                b.append(rarely(12) ? upTo(1003) : upTo(12));
            } else {
                String[] words = orders ? ORDER_WORDS : LAW_WORDS;
                b.append(' ').append(words[upTo(words.length)]).append(' ');
            }
        }
    }
}
