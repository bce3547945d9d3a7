/** Counts answers that are not as due, and feeds texts. */
final class Checks {
    private int wrong = 0;
    private int asked = 0;

    void due(String call, long got, long want) {
        asked++;
        if (got != want) {
            wrong++;
            System.out.println(call + " answered " + got + ", due is " + want);
        }
    }

    void dueRefused(TownSundays x, String call, int got, int want) {
        due(call, got, want);
        due(call + ", status()", x.status(), want);
    }

    void ok(String what, boolean is) {
        due(what, is ? 1 : 0, 1);
    }

    void finish() {
        System.out.println(wrong == 0 ? asked + " answers are as due" : wrong + " of " + asked + " answers are not as due");
        if (wrong != 0) System.exit(1);
    }

    /** The TAPE is this text then. */
    static void put(TownSundays x, String text) {
        x.end(0);
        for (int i = 0; i < text.length(); i += 20) {
            int[] v = new int[5];
            for (int j = 0; j < 20 && i + j < text.length(); j++) {
                v[j / 4] |= text.charAt(i + j) << 24 - 8 * (j % 4);
            }
            x.feed(v[0], v[1], v[2], v[3], v[4]);
        }
        x.end(text.length());
    }

    static int law(TownSundays x, String text) {
        put(x, text);
        return x.law();
    }

    /** A LAW that is in FORCE then. */
    static void rule(TownSundays x, String text) {
        int law = law(x, text);
        if (law < 0) throw new IllegalArgumentException(text + ": " + law + " at " + x.fault());
        x.force(law);
    }

    static int orders(TownSundays x, String text) {
        put(x, text);
        return x.orders();
    }

    static TownSundays towns(int... bells) {
        TownSundays x = new TownSundays();
        for (int b : bells) x.town(b, 0);
        return x;
    }

    /** TOWNS with ROADS of that many MILES between all of them. */
    static TownSundays joined(int miles, int... bells) {
        TownSundays x = towns(bells);
        for (int a = 0; a < bells.length; a++) for (int b = a + 1; b < bells.length; b++) x.road(a, b, miles);
        return x;
    }

    static String times(String s, int n) {
        return s.repeat(n);
    }
}
