/** Runs of calls that tests begin with. */
final class Lands {
    /** Three TOWNS with a ROAD between any two. */
    static final String[] THREE = {"town 3 1", "town 5 0", "town 1 9", "road 0 1 10", "road 1 2 5", "road 0 2 20"};

    /** All that an object can keep, each thing other than at first: what is left as it was shows in it. */
    static final String[] RICH = {
        "town 3 1", "town 5 0", "town 1 9", "road 0 1 10", "road 1 2 5", "road 0 2 20", "terms 1 3", "terms 2 4", "image 0",
        "law likes bells * 3 + town * sunday + miles;alters bells + 1 if town < 2;bars if sunday = 2 and town = 1 and year > 0",
        "law likes 9 - bells", "force 0", "heard 1 24", "row 0 1 10 0 0 1", "swap 0 1", "pass", "close 1 2", "image 1", "swap 0 2",
        "?orders pass;swap 0 with 0", "?law likes", "centuries 7 9", "tape swap 0 with 2;pass"};

    /** Seven TOWNS with ROADS of five MILES between all of them. */
    static final String[] SEVEN = {
        "town 1 0", "town 2 0", "town 3 0", "town 4 0", "town 5 0", "town 6 0", "town 7 0",
        "row 0 1 5 0 2 5 0 3 5 0 4 5 0 5 5 0 6 5 1 2 5 1 3 5 1 4 5 1 5 5 1 6 5 2 3 5 2 4 5 2 5 5 2 6 5 3 4 5 3 5 5 3 6 5 4 5 5 4 6 5 5 6 5"};

    /** TOWN 1 is asked of SUNDAY 0: each word of a LAW tells another number. */
    static final String[] WORDY = {"town 3 7", "town 4 2", "road 0 1 20", "terms 0 6", "terms 2 8", "pass"};

    private Lands() { }

    static Run rich() { return new Run(RICH); }

    static Run three() { return new Run(THREE); }

    static Run seven() { return new Run(SEVEN); }

    /** THREE with a LAW that is in FORCE. */
    static Run ruled(String law) { return three().make("law " + law, "force 0"); }

    /** How TOWN 1 LIKES SUNDAY 0 by such a LAW. */
    static void likes(String law, int want) {
        new Run(WORDY).make("law " + law, "force 0").tells("of 1 1", want);
    }

    /** Whether a TEST is so, as a LAW and as ORDERS ask it. */
    static void so(String test, boolean is) {
        likes("likes 7;likes 8 if " + test, is ? 8 : 7);
        three().taken("orders pass if " + test, is ? 1 : 0);
    }

    /** A SUM that is not BROKEN; as LAWS tell it, it is cut to 0 .. 99. */
    static void sum(String sum, int want) {
        likes("likes 7;likes " + sum, Math.max(0, Math.min(99, want)));
        three().taken("orders pass if " + sum + " = " + (want < 0 ? "0 - " + -want : "" + want), 1);
    }

    static void brokenSum(String sum) {
        likes("likes 7;likes " + sum, 7);
        brokenTest(sum + " = 0");
        brokenTest("0 = " + sum);
    }

    /** Neither it nor that it is not so is so. */
    static void brokenTest(String test) {
        so(test, false);
        so("not (" + test + ")", false);
    }

    /** LAWS that can't be read; a ^ stands ahead of the TOKEN that is the FAULT. */
    static void lawFaults(String... marked) {
        for (String m : marked) rich().refusedText("law", m.replace("^", ""), m.indexOf('^'));
    }

    static void ordersFaults(String... marked) {
        for (String m : marked) rich().refusedText("orders", m.replace("^", ""), m.indexOf('^'));
    }

    static void bothFault(String... marked) {
        lawFaults(marked);
        ordersFaults(marked);
    }

    static void lawReads(String... texts) {
        for (String text : texts) {
            Run x = rich();
            x.taken("law " + text, 2);
            x.tells("fault", -1);
            x.tells("count 7", 0);
        }
    }

    static void ordersRead(String text, int run) {
        Run x = rich();
        x.taken("orders " + text, run);
        x.tells("fault", -1);
        x.tells("stopped", -1);
        x.tells("count 7", 0);
    }
}
