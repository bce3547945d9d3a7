import java.util.List;

/** The sentences of the Terms III and IV that name what is too small, too large, empty, full or refused. */
public final class PaperEdgeTest {
    /** Four TOWNS with ROADS between all of them. */
    private static final String[] FOUR = {"town 1 0", "town 2 0", "town 3 0", "town 4 0", "row 0 1 5 0 2 5 0 3 5 1 2 5 1 3 5 2 3 5"};

    public static void main(String[] args) throws Exception {
        Sentences.run(PaperEdgeTest.class, List.of("III", "IV"));
    }

    /** What the TOWNS 0 on are told by such a call, one by one. */
    private static void row(Run x, String name, int... sundays) {
        for (int t = 0; t < sundays.length; t++) x.tells(name + " " + t, sundays[t]);
    }

    private static void has(Run x, int... sundays) {
        for (int t = 0; t < sundays.length; t++) x.tells("of " + t + " 0", sundays[t]);
    }

    // ---- III, SUNDAYS that are SENT

    @Says({"III", "if there is a ROAD between the two"})
    static void sentByARoadAlone() {
        Run x = new Run("town 3 1", "town 5 0", "town 1 9", "road 0 1 10", "road 1 2 5");
        x.tells("of 0 15", 1);
        x.tells("of 0 16", 1);
        x.tells("of 0 17", 0);
        x.tells("of 2 15", 0);
        x.tells("of 2 17", 1);
        x.refused("swap 0 2", -3);
        x.refused("swap 2 0", -3);
        x.refused("round 0 1 2", -3);
        x.refused("round 2 1 0", -3);
        x.taken("swap 1 2", 2);
        x.tells("of 0 17", 1);
        x.tells("of 0 16", 0);
        x.taken("road 0 1 0", 10);
        x.refused("swap 0 1", -3);
    }

    @Says({"III", "that is not CLOSED"})
    static void sentByNoClosedRoad() {
        Run x = Lands.three().make("close 0 1");
        x.tells("of 0 16", 0);
        x.tells("of 1 15", 0);
        x.tells("of 0 15", 1);
        x.tells("of 0 17", 1);
        for (String call : List.of("swap 0 1", "swap 1 0", "round 0 1 2", "round 2 1 0")) x.refused(call, -3);
        x.taken("close 0 1", 0);
        x.tells("of 0 16", 1);
        x.taken("swap 0 1", 1);
    }

    @Says({"III", "and it is not BARRED from that TOWN"})
    static void sentToNoTownThatBarsIt() {
        Run x = Lands.ruled("bars if sunday = 1 and town = 0");
        x.tells("of 0 16", 0);
        x.tells("of 1 15", 1);
        x.refused("swap 0 1", -3);
        x.refused("swap 1 0", -3);
        x.refused("round 1 0 2", -3);
        x.taken("swap 1 2", 2);
        x.refused("swap 0 2", -3);
        x.taken("swap 0 1", 2);
    }

    @Says({"III", "(of several at once each as all was ahead)"})
    static void eachAsAllWasAhead() {
        // Were one there already when the next is asked, its MILES were 0.
        Run x = Lands.ruled("bars if miles < 5 or miles > 20");
        x.taken("swap 0 1", 1);
        x.taken("swap 0 1", 0);
        x.taken("round 0 1 2", 2);
        x.taken("round 2 1 0", 2);
        // HAD and BELLS are those of the SUNDAY that is sent, wherever another one goes.
        Run y = Lands.ruled("bars if had > 0 or bells = 1 and town = 0").make("pass");
        y.taken("swap 0 1", 1);
        y.refused("swap 0 1", -3);
        y.refused("swap 0 2", -3);
        y.taken("swap 1 2", 2);
    }

    @Says({"III", "To SWAP: two TOWNS have one another's SUNDAYS, if both can be SENT."})
    static void swappedIfBothCanBeSent() {
        Run x = Lands.three();
        x.taken("swap 0 2", 2);
        has(x, 2, 1, 0);
        x.taken("swap 2 1", 1);
        has(x, 2, 0, 1);
        x.tells("sunday 0 0", 1);
        x.tells("sunday 1 0", 2);
        x.tells("sunday 2 0", 0);
        for (String law : List.of("bars if sunday = 0 and town = 1", "bars if sunday = 1 and town = 0")) {
            Run y = Lands.ruled(law);
            y.refused("swap 0 1", -3);
            y.refused("swap 1 0", -3);
            y.taken("swap 0 2", 2);
        }
    }

    @Says({"III", "ROUND: a first TOWN's goes to a second one, that one's to a third one, that one's to the first"})
    static void roundGoesOn() {
        Run x = Lands.three();
        x.taken("round 0 1 2", 2);
        has(x, 2, 0, 1);
        x.taken("round 2 0 1", 0);
        has(x, 1, 2, 0);
        x.taken("round 2 1 0", 1);
        has(x, 2, 0, 1);
    }

    @Says({"III", "that one's to the first, if all three can be SENT."})
    static void roundIfAllThreeCanBeSent() {
        for (int i = 0; i < 3; i++) {
            int next = (i + 1) % 3;
            Run closed = Lands.three().make("close " + i + " " + next);
            closed.refused("round 0 1 2", -3);
            closed.refused("round 2 1 0", -3);
            Run none = Lands.three().make("road " + i + " " + next + " 0");
            none.refused("round 0 1 2", -3);
            Run barred = Lands.ruled("bars if sunday = " + i + " and town = " + next);
            barred.refused("round 0 1 2", -3);
            barred.refused("round 1 2 0", -3);
            barred.refused("round 2 0 1", -3);
            barred.taken("round 2 1 0", 0);
        }
    }

    @Says({"III", "A ROAD is CLOSED, if it was not, else no more."})
    static void closedOrNoMore() {
        Run x = Lands.three();
        x.taken("close 0 1", 1);
        x.tells("between 0 1 1", 1);
        x.tells("between 0 1 0", 10);
        x.tells("between 1 2 1", 0);
        x.tells("count 2", 3);
        x.tells("count 3", 1);
        x.taken("close 1 0", 0);
        x.tells("between 0 1 1", 0);
        x.tells("count 3", 0);
    }

    // ---- III, YEARS

    @Says({"III", "each TOWN HAD its SUNDAY once more (99 at most)"})
    static void hadOnceMore() {
        Run x = Lands.three().make("swap 0 1", "pass");
        for (int t = 0; t < 3; t++) for (int s = 0; s < 3; s++) x.tells("of " + t + " " + (8 + s), s == new int[] {1, 0, 2}[t] ? 1 : 0);
        x.make("orders pass times 20;pass times 20;pass times 20;pass times 20;pass times 17");
        x.tells("of 0 9", 98);
        x.make("swap 0 2", "pass", "swap 0 2", "pass");
        x.tells("of 0 9", 99);
        x.tells("of 1 8", 99);
        x.tells("of 0 10", 1);
        x.make("pass");
        x.tells("of 0 9", 99);
        x.tells("of 2 10", 99);
    }

    @Says({"III", "all SUNDAYS ALTER (all asked as it was ahead)"})
    static void alteredAsItWasAhead() {
        Run x = Lands.ruled("likes had * 10 + year + 1;alters had * 9");
        x.taken("pass", 3);
        for (int s = 0; s < 3; s++) x.tells("sunday " + s + " 1", 0);
        x.taken("pass", 36);
        for (int s = 0; s < 3; s++) x.tells("sunday " + s + " 1", 9);
        Run y = Lands.ruled("likes bells;alters year + 3").make("swap 0 2");
        y.taken("pass", 9);
        for (int s = 0; s < 3; s++) y.tells("sunday " + s + " 1", 3);
        y.taken("pass", 9);
        for (int s = 0; s < 3; s++) y.tells("sunday " + s + " 1", 4);
    }

    @Says({"III", "it is the next YEAR (at 999 it can't be)"})
    static void noYearBehind999() {
        Run x = Lands.three().make("terms 0 998");
        x.taken("pass", 9);
        x.tells("count 14", 999);
        x.refused("pass", -3);
        x.taken("undo", 3);
        x.tells("count 14", 998);
        x.taken("pass", 9);
        Run y = Lands.rich().make("terms 0 999");
        y.refused("pass", -3);
        Run none = new Run("terms 0 999");
        none.refused("pass", -3);
        none.taken("terms 0 998", 999);
        none.taken("pass", 0);
    }

    // ---- III, RINGS

    @Says({"III", "RINGS: a TOWN, then that in which its own SUNDAY is, then that in which that one's is, and so on, till it is come back to."})
    static void ringsOfOneToSeven() {
        Run x = Lands.seven();
        x.tells("rings -1", 7);
        x.tells("rings 6", 1);
        for (int i = 0; i < 6; i++) {
            x.make("swap " + i + " " + (i + 1));
            x.tells("rings -1", 6 - i);
            x.tells("rings 0", i + 2);
            x.tells("rings " + (i + 1), i + 2);
            if (i < 5) x.tells("rings 6", 1);
        }
    }

    @Says({"III", "till all are home, the way they are now being the first time."})
    static void repeatedTillAllAreHome() {
        Lands.three().tells("repeated", 1);
        Lands.three().make("swap 0 1").tells("repeated", 2);
        Lands.three().make("round 0 1 2").tells("repeated", 3);
        Lands.three().make("round 2 1 0").tells("repeated", 3);
        Run x = Lands.seven().make("swap 0 1", "swap 2 3");
        x.tells("repeated", 2);
        x.make("round 4 5 6");
        x.tells("repeated", 6);
        x.make("swap 0 2");
        x.tells("repeated", 12);
        x.make("undo", "undo", "swap 4 5", "swap 4 6", "swap 4 2");
        x.tells("repeated", 10);
        x.make("swap 0 2");
        x.tells("repeated", 7);
        Lands.seven().make("swap 0 1", "swap 2 3", "swap 3 4", "swap 4 5").tells("repeated", 4);
        Lands.seven().make("round 0 1 2", "round 3 4 5").tells("repeated", 3);
    }

    // ---- III, arrangements on paper

    @Says({"III", "each SUNDAY being SENT from where it is, if it can be, or staying"})
    static void onPaperFromWhereItIs() {
        Run none = new Run("town 3 1", "town 5 0", "town 1 9");
        none.tells("mostLiked -1", 9);
        row(none, "mostLiked", 0, 1, 2);
        none.tells("newOnes", 1);
        Run stay = Lands.three().make("swap 0 1", "law likes bells;bars", "force 0");
        stay.tells("mostLiked -1", 9);
        row(stay, "mostLiked", 1, 0, 2);
        row(stay, "market", 1, 0, 2);
        stay.tells("newOnes", 1);
        row(stay, "anew", 1, 0, 2);
        Run x = new Run("town 3 1", "town 5 0", "town 1 9", "road 0 1 10", "road 1 2 5", "swap 0 1", "law likes bells;likes 50 if town = 2 and sunday = 0", "force 0");
        x.tells("mostLiked -1", 56);
        row(x, "mostLiked", 1, 2, 0);
    }

    @Says({"III", "laws asked as all is now:)"})
    static void onPaperLawsAreAskedAsAllIsNow() {
        Run x = Lands.ruled("likes miles");
        x.tells("mostLiked -1", 40);
        row(x, "mostLiked", 2, 1, 0);
        // Of what it has not, each has MILES to LIKE now; behind a SWAP it had none.
        x.tells("bargains -1", 3);
        row(x, "market", 2, 1, 0);
    }

    @Says({"III", "MOST LIKED: of all arrangements by which each TOWN has one SUNDAY that by which what TOWNS LIKE is most together; the first as a row of SUNDAYS by TOWNS."})
    static void mostLikedTheFirstRow() {
        Run x = Lands.ruled("likes 7").make("round 0 1 2");
        x.tells("mostLiked -1", 21);
        row(x, "mostLiked", 0, 1, 2);
        Run y = Lands.ruled("likes 9 - own * 9");
        y.tells("mostLiked -1", 18 + 9);
        row(y, "mostLiked", 1, 2, 0);
        // All want SUNDAY 1, and each has one alone.
        Run z = Lands.ruled("likes 0;likes 50 if sunday = 1");
        z.tells("mostLiked -1", 50);
        row(z, "mostLiked", 0, 1, 2);
        Run seven = Lands.seven().make("law likes 6 - sunday if town = 0;likes 99 if town = 6 and sunday = 0", "force 0");
        seven.tells("mostLiked 6", 0);
        seven.tells("mostLiked 0", 1);
    }

    @Says({"III", "NEW: of those by which each TOWN has a SUNDAY it never HAD (one that stays, too, if it never HAD it)"})
    static void newIfItNeverHadIt() {
        Run x = Lands.three();
        x.tells("newOnes", 6);
        x.tells("anew -1", 0);
        row(x, "anew", 0, 1, 2);
        x.make("pass");
        x.tells("newOnes", 2);
        x.make("round 0 1 2");
        x.tells("newOnes", 2);
        x.tells("anew -1", 0);
        row(x, "anew", 2, 0, 1);
        x.make("pass");
        x.tells("newOnes", 1);
        row(x, "anew", 1, 2, 0);
        x.make("round 0 1 2", "pass");
        x.tells("newOnes", 0);
        x.none("anew -1", "anew 0", "anew 2");
        Run alone = new Run("town 1 1");
        alone.tells("newOnes", 1);
        alone.make("pass");
        alone.tells("newOnes", 0);
        alone.none("anew -1", "anew 0");
    }

    @Says({"III", "that of the fewest MILES together (0 for one that stays); the first as such a row"})
    static void newOfTheFewestMiles() {
        Run x = Lands.three().make("pass");
        // Both ways round have the same MILES: the first row is told.
        x.tells("anew -1", 35);
        row(x, "anew", 1, 2, 0);
        Run y = new Run(FOUR).make("road 0 1 9", "road 2 3 9", "road 0 2 4", "road 1 3 4", "pass");
        y.tells("anew -1", 16);
        row(y, "anew", 2, 3, 0, 1);
        Run stays = Lands.three().make("pass", "swap 0 1");
        stays.tells("anew -1", 10);
        row(stays, "anew", 1, 2, 0);
        Run longest = new Run("town 1 1", "town 2 2", "road 0 1 99", "pass");
        longest.tells("anew -1", 198);
    }

    @Says({"III", "how many there are of whatever MILES"})
    static void newOnesOfWhateverMiles() {
        Lands.seven().tells("newOnes", 5040);
        Run x = new Run(FOUR).make("road 0 1 99", "road 2 3 1");
        x.tells("newOnes", 24);
        x.make("pass");
        x.tells("newOnes", 9);
        x.make("close 0 1");
        x.tells("newOnes", 4);
    }

    @Says({"III", "HOME: the fewest SWAPS, one behind the other, by ROADS that are not CLOSED"})
    static void homeByOpenRoads() {
        Run x = Lands.three().make("swap 0 2");
        x.tells("home -1", 1);
        x.tells("home 0", 2);
        x.make("close 0 2");
        x.tells("home -1", 3);
        x.tells("home 0", 1);
        x.tells("home 1", 9);
        x.tells("home 2", 1);
        x.none("home 3");
        x.make("close 0 1");
        x.none("home -1", "home 0");
        Run far = new Run("town 1 0", "town 1 0", "town 1 0", "town 1 0", "town 1 0", "town 1 0", "town 1 0", "row 0 1 1 1 2 1 2 3 1 3 4 1 4 5 1 5 6 1",
            "orders swap 0 with 1;swap 1 with 2;swap 2 with 3;swap 3 with 4;swap 4 with 5;swap 5 with 6", "orders swap 0 with 1;swap 1 with 2;swap 2 with 3;swap 3 with 4;swap 4 with 5",
            "orders swap 0 with 1;swap 1 with 2;swap 2 with 3;swap 3 with 4", "orders swap 0 with 1;swap 1 with 2;swap 2 with 3;swap 0 with 1;swap 1 with 2;swap 0 with 1");
        has(far, 6, 5, 4, 3, 2, 1, 0);
        far.tells("home -1", 21);
        far.tells("home 0", 1);
        far.tells("home 20", 1);
        far.none("home 21");
    }

    @Says({"III", "HOME: the fewest SWAPS, one behind the other"})
    static void homeOfAnyThree() {
        for (int hub = 0; hub < 7; hub++) for (int a = 0; a < 7; a++) for (int b = 0; b < 7; b++) {
            if (a == b || a == hub || b == hub) continue;
            Run x = new Run("town 1 0", "town 1 0", "town 1 0", "town 1 0", "town 1 0", "town 1 0", "town 1 0",
                "road " + a + " " + hub + " 1", "road " + b + " " + hub + " 1", "swap " + b + " " + hub, "swap " + a + " " + hub);
            x.due("home -1", 2);
            x.due("home 0", 7 * Math.min(a, hub) + Math.max(a, hub));
            x.due("home 1", 7 * Math.min(b, hub) + Math.max(b, hub));
            x.due("home 2", -1);
        }
    }

    @Says({"III", "HOME: the fewest SWAPS, one behind the other, by ROADS that are not CLOSED, laws asked as all is now"})
    static void homeIsAskedAnew() {
        // What was found ahead of a LAW is no way behind it.
        Run x = Lands.three().make("round 0 1 2", "law bars if own = 0");
        x.tells("home -1", 2);
        x.make("home -1", "force 0");
        x.none("home -1", "home 0");
        Run y = Lands.three().make("swap 1 2", "road 1 2 0", "law bars if sunday = 0 and town > 0", "home -1");
        y.tells("home -1", 3);
        y.make("force 0");
        y.none("home -1");
        y.make("home -1", "force -1");
        y.tells("home -1", 3);
        Run z = Lands.three().make("swap 0 1", "home -1", "swap 1 2", "home -1", "road 0 1 0", "home -1");
        z.tells("home -1", 2);
        z.make("town 1 1");
        z.tells("home -1", 2);
    }

    @Says({"III", "laws asked as all is now but where SUNDAYS are (miles: of the ROAD between the two), behind which all are home"})
    static void homeAsLawsAreAskedNow() {
        Run x = new Run("town 1 0", "town 2 0", "town 3 0", "road 0 1 5", "road 1 2 6", "road 0 2 7", "swap 0 2", "close 0 2",
            "law bars if sunday = 1 and town = 0", "law bars if miles = 6 and town = 2", "law bars if miles = 7 and town = 2", "law bars if own = 1", "law bars if year > 0 or mood > 0");
        x.make("force 0");
        x.tells("home -1", 3);
        x.tells("home 0", 9);
        x.tells("home 1", 1);
        x.tells("home 2", 9);
        x.make("force 1");
        x.none("home -1", "home 0");
        x.make("force 2");
        x.tells("home -1", 3);
        x.make("force 3");
        x.none("home -1");
        x.make("force 4");
        x.tells("home -1", 3);
        x.make("pass");
        x.none("home -1");
        x.make("terms 0 0");
        x.tells("home -1", 3);
        x.make("terms 2 1");
        x.none("home -1");
        // One that is home need not be sent, whatever is barred.
        Run home = Lands.ruled("bars");
        home.tells("home -1", 0);
        home.none("home 0");
    }

    @Says({"III", "the first row of them, each told as 7 times the lower TOWN and the higher one, by the first in which they differ, the lower number ahead."})
    static void homeByTheFirstRow() {
        Run x = Lands.three().make("round 0 1 2");
        x.tells("home -1", 2);
        x.tells("home 0", 1);
        x.tells("home 1", 9);
        Run y = Lands.three().make("round 0 2 1");
        y.tells("home -1", 2);
        y.tells("home 0", 1);
        y.tells("home 1", 2);
        y.make("close 0 1");
        y.tells("home 0", 2);
        y.tells("home 1", 9);
        Run z = Lands.seven().make("swap 5 6", "swap 3 4", "swap 0 1");
        z.tells("home -1", 3);
        z.tells("home 0", 1);
        z.tells("home 1", 25);
        z.tells("home 2", 41);
        z.none("home 3");
    }

    // ---- III, wishes

    @Says({"III", "(the lowest of alike ones)"})
    static void marketAsksForTheLowestOfAlikeOnes() {
        String law = "law likes 0;likes 5 if town = 0 and sunday > 0;likes 5 if town > 0 and sunday = 0";
        Run x = Lands.three().make(law, "force 0");
        row(x, "market", 1, 0, 2);
        // The lowest SUNDAY, not the lowest TOWN.
        Run y = Lands.three().make("swap 1 2", law, "force 0");
        row(y, "market", 1, 2, 0);
        Run alike = Lands.ruled("likes 7").make("round 0 1 2");
        row(alike, "market", 2, 0, 1);
    }

    @Says({"III", "each TOWN that has not left asks for the SUNDAY it LIKES most of those that are had by TOWNS that have not left"})
    static void marketAsksOfThoseThatHaveNotLeft() {
        Run x = new Run(FOUR).make("law likes 0;likes 9 if town + sunday = 1;likes 9 if town = 2 and sunday = 1;likes 9 if town = 3 and sunday = 0;"
            + "likes 5 if town = 2 and sunday = 3;likes 5 if town = 3 and sunday = 2", "force 0");
        row(x, "market", 1, 0, 3, 2);
        x.none("market 4");
    }

    @Says({"III", "and that could be SENT to it or it has"})
    static void marketAsksForWhatCanBeSent() {
        String wishes = "likes 0;likes 9 if sunday = [town + 1] % 3";
        row(Lands.ruled(wishes), "market", 1, 2, 0);
        row(Lands.ruled(wishes + ";bars if town = 1 and sunday = 2"), "market", 1, 0, 2);
        row(Lands.ruled(wishes).make("close 1 2"), "market", 1, 0, 2);
        row(Lands.ruled(wishes).make("road 1 2 0", "road 0 1 0"), "market", 0, 1, 2);
        row(Lands.three().make("swap 0 1", "law " + wishes + ";bars", "force 0"), "market", 1, 0, 2);
    }

    @Says({"III", "TOWNS that so ask round in a ring (one that asks for what it has is one) have what they ask for and leave; what each has then."})
    static void marketLeavesByRings() {
        // TOWN 1 has what it LIKES most and leaves; TOWN 0 wanted it, then wants 2.
        Run x = Lands.ruled("likes 0;likes 9 if sunday = 1;likes 5 if town = 0 and sunday = 2;likes 5 if town = 2 and sunday = 0");
        row(x, "market", 2, 1, 0);
        Run one = new Run("town 4 4");
        row(one, "market", 0);
        Run home = Lands.ruled("likes own * 9");
        row(home, "market", 0, 1, 2);
        home.make("round 0 1 2");
        row(home, "market", 0, 1, 2);
    }

    @Says({"III", "BARGAINS: SWAPS that can be by which each of two TOWNS would LIKE more what it would have than what it has."})
    static void bargainsOfBoth() {
        Lands.ruled("likes 5").tells("bargains -1", 0);
        Lands.ruled("likes 5;likes 6 if town = 0 and sunday = 1").tells("bargains -1", 0);
        Lands.ruled("likes 5;likes 6 if town = 0 and sunday = 1;likes 6 if town = 1 and sunday = 0").tells("bargains 0", 1);
        Run x = Lands.ruled("likes 9 - own * 9");
        x.tells("bargains -1", 3);
        x.make("close 1 2");
        x.tells("bargains -1", 2);
        x.tells("bargains 1", 2);
        x.make("road 0 1 0");
        x.tells("bargains -1", 1);
        x.tells("bargains 0", 2);
        Lands.ruled("likes 9 - own * 9;bars if sunday = 0 and town = 2").tells("bargains -1", 2);
        Lands.ruled("likes 9 - own * 9;bars if sunday = 2 and town = 0").tells("bargains 1", 9);
    }

    @Says({"III", "ENVY of a TOWN: those TOWNS whose SUNDAYS it LIKES more than what it has (whether they could be SENT or not"})
    static void envyWhetherTheyCouldBeSentOrNot() {
        Run x = new Run("town 3 1", "town 5 0", "town 1 9");
        row(x, "envy", 2, 0, 3);
        Run y = Lands.three().make("swap 0 1", "law likes bells;bars", "force 0", "close 0 2");
        row(y, "envy", 0, 1, 3);
        Run alike = Lands.ruled("likes 5");
        row(alike, "envy", 0, 0, 0);
    }

    @Says({"III", "(whether they could be SENT or not; so in what is HEARD)"})
    static void heardWhetherItCouldBeSentOrNot() {
        Run x = new Run("town 3 1", "town 5 0", "town 1 9", "law likes town + 1;bars", "force 0", "heard 0 3");
        x.tells("canBe", 4);
        x.tells("ask 1", 1);
    }

    @Says({"III", "IT CAN BE: TOWNS of which all that was HEARD is so."})
    static void canBeIfAllIsSo() {
        Run x = Lands.ruled("likes town / 2 * 10 + sunday");
        x.tells("canBe", 7);
        x.make("heard 2 2");
        x.tells("canBe", 3);
        x.make("heard 2 2");
        x.tells("canBe", 3);
        x.make("heard 1 11");
        x.tells("canBe", 0);
        x.make("forget", "heard 1 11", "heard 0 10");
        x.tells("canBe", 4);
        // It is asked as all is now.
        x.make("force -1");
        x.tells("canBe", 0);
        new Run().tells("canBe", 0);
    }

    @Says({"III", "To ASK of: the SUNDAY which of these the most LIKE alike that are as few as can be; the lowest."})
    static void askOfTheLowestThatTellsMost() {
        Run x = Lands.ruled("likes 1;likes town if sunday = 2;likes town if sunday = 1");
        x.tells("ask 0", 1);
        x.tells("ask 1", 1);
        Run y = Lands.ruled("likes 1;likes town / 2 if sunday = 2");
        y.tells("ask 0", 2);
        y.tells("ask 1", 2);
        Run alike = Lands.ruled("likes 1");
        alike.tells("ask 0", 0);
        alike.tells("ask 1", 3);
        // Of these: TOWN 2 is none of them any more, so that SUNDAY 0 tells the two others apart as well.
        Run z = Lands.ruled("likes 1;likes town % 2 if sunday = 0;likes town if sunday = 1;likes town / 2 if sunday = 2");
        z.tells("ask 0", 1);
        z.make("heard 2 0");
        z.tells("ask 0", 0);
        z.tells("ask 1", 1);
        Run one = Lands.ruled("likes town").make("heard 0 1");
        one.tells("ask 0", 0);
        one.tells("ask 1", 1);
    }

    @Says({"III", "FEW: the chance, of 1,000,000,000,000 parts, that of n vans, each of which is lost in LOSSES of ten, fewer than k are"})
    static void fewerThanK() {
        long all = 1000000000000L;
        Run x = new Run();
        x.tells("few 1 0", all);
        x.tells("few 1 1", 900000000000L);
        x.tells("few 2 1", all);
        x.tells("few 1 2", 810000000000L);
        x.tells("few 2 2", 990000000000L);
        x.tells("few 3 2", all);
        x.make("terms 1 0");
        x.tells("few 1 99", all);
        x.make("terms 1 10");
        x.tells("few 1 0", all);
        x.tells("few 1 1", 0);
        x.tells("few 20 19", all);
        x.tells("few 20 20", 0);
        x.tells("few 3 3", 0);
        x.tells("few 4 3", all);
    }

    @Says({"III", "van by van, by how many were, each part times the rest by ten and times LOSSES by ten (one more), both cut; of those below k all together."})
    static void fewIsCutVanByVan() {
        for (int losses : new int[] {1, 3, 7, 9}) {
            Run x = new Run("terms 1 " + losses);
            long[] parts = new long[101];
            parts[0] = 1000000000000L;
            for (int n = 1; n <= 99; n++) {
                long[] then = new long[101];
                for (int lost = 0; lost < n; lost++) {
                    then[lost] += parts[lost] * (10 - losses) / 10;
                    then[lost + 1] += parts[lost] * losses / 10;
                }
                parts = then;
                if (n != 13 && n != 40 && n != 99) continue;
                long below = 0;
                for (int k = 1; k <= 20; k++) {
                    below += parts[k - 1];
                    x.due("few " + k + " " + n, below);
                }
            }
        }
    }

    @Says({"III", "COMPARED: how well a TOWN LIKES a SUNDAY by a LAW in place of that in FORCE (NONE: none)."})
    static void comparedByALawInPlace() {
        Run x = Lands.ruled("likes 30 + sunday").make("law likes 100 + town", "law bars");
        x.tells("compare 0 2 1", 31);
        x.tells("compare 1 2 1", 99);
        x.tells("compare 2 2 1", 5);
        x.tells("compare -1 2 1", 5);
        x.tells("of 2 2", 31);
        x.make("force -1");
        x.tells("compare 0 2 1", 31);
    }

    // ---- IV

    private static int draw(int s) { return (int) ((s * 1103L + 12345) % 1000003); }

    /** CENTURIES tell what comes of the calls that they draw, made on another object. */
    private static void centuries(String[] land, String law, int year, int seed, int n) {
        String[] more = {"terms 0 " + year, "law " + law, "force 0"};
        Run x = new Run(land).make(more);
        Run made = new Run(land).make(more);
        long towns = x.ask("count 0");
        int s = seed;
        for (int i = 0; i < n && year + i < 999; i++) {
            long[] drawn = new long[4];
            for (int k = 0; k < 4; k++) {
                s = draw(s);
                drawn[k] = s % (k < 3 ? towns : 4);
            }
            if (drawn[3] < 2) made.make("?swap " + drawn[0] + " " + drawn[1]);
            if (drawn[3] == 2) made.make("?round " + drawn[0] + " " + drawn[1] + " " + drawn[2]);
            made.make("pass");
        }
        x.taken("centuries " + seed + " " + n, made.ask("count 1"));
        for (int k = 0; k < towns; k++) {
            x.tells("drawn " + k + " 0", made.ask("of " + k + " 0"));
            x.tells("drawn " + k + " 1", made.ask("sunday " + k + " 1"));
        }
        x.none("drawn " + towns + " 0", "drawn " + towns + " 1");
    }

    private static final String TURNING = "alters [bells * 3 + hats + town + year] % 10;bars if sunday = 2 and town = 0 and year % 2 = 0";

    @Says({"IV", "CENTURIES with a SEED, n 1 .. 60"})
    static void fromOneTo60Times() {
        Run x = Lands.rich();
        for (String n : List.of("0", "-1", "61", "-2147483648", "2147483647")) x.refused("centuries 5 " + n, -1);
        centuries(Lands.THREE, TURNING, 0, 5, 1);
        centuries(Lands.THREE, TURNING, 0, 5, 2);
        centuries(Lands.THREE, TURNING, 0, 5, 60);
        centuries(Lands.SEVEN, TURNING, 0, 77, 60);
    }

    @Says({"IV", "s is the SEED (0 .. 1,000,000)"})
    static void seedsToAMillion() {
        Run x = Lands.rich();
        for (String seed : List.of("-1", "1000001", "1000003", "-2147483648", "2147483647")) x.refused("centuries " + seed + " 5", -1);
        for (int seed : new int[] {0, 1, 999999, 1000000}) {
            centuries(Lands.THREE, TURNING, 0, seed, 9);
            centuries(Lands.SEVEN, TURNING, 0, seed, 9);
        }
    }

    @Says({"IV", "a DRAW of m: s becomes (s times 1103 and 12345) modulo 1,000,003, it is s modulo m."})
    static void drawsGoRound() {
        // Of this SEED the first DRAW is 0; another one comes to the most that there can be.
        for (int seed = 0; seed <= 1000000; seed++) {
            int s = draw(seed);
            if (s == 0 || s == 1000002) centuries(Lands.THREE, TURNING, 3, seed, 3);
        }
    }

    @Says({"IV", "Each time, as long as YEAR is below 999"})
    static void noTimeAtYear999() {
        for (int year : new int[] {995, 997, 998, 999}) centuries(Lands.THREE, TURNING, year, 4, 60);
        Run x = Lands.three().make("swap 0 1", "terms 0 999");
        x.taken("centuries 4 60", 1);
        x.tells("drawn 0 0", 1);
        x.tells("drawn 0 1", 3);
        // Nothing passes but on paper.
        Run y = Lands.three().make("terms 0 998");
        y.make("centuries 4 60");
        y.tells("count 14", 998);
        y.taken("pass", 9);
    }

    @Says({"IV", "DRAWS of TOWNS, of TOWNS, of TOWNS, of 4, whatever comes of them"})
    static void drawsWhateverComesOfThem() {
        String[] one = {"town 3 3"};
        String[] two = {"town 3 3", "town 4 4", "road 0 1 5"};
        for (int seed = 0; seed < 6; seed++) {
            centuries(one, TURNING, 0, seed, 7);
            centuries(two, TURNING, 0, seed, 7);
            centuries(new String[] {"town 3 3", "town 4 4", "town 5 5"}, TURNING, 0, seed, 7);
        }
    }

    @Says({"IV", "at 0, 1 (the last DRAW) the first two SWAP, at 2 the three go ROUND, each if it can be, at 3 nothing; then the YEAR passes."})
    static void theLastDrawTells() {
        boolean[] seen = new boolean[4];
        for (int seed = 0; seed < 40; seed++) {
            seen[draw(draw(draw(draw(seed)))) % 4] = true;
            centuries(Lands.THREE, TURNING, 1, seed, 1);
        }
        for (int last = 0; last < 4; last++) if (!seen[last]) Sentences.wrong("no SEED had " + last + " drawn last");
        // What bars all leaves the YEARS to pass.
        centuries(Lands.THREE, "bars;alters 9 - bells", 0, 3, 9);
    }

    @Says({"IV", "CENTURIES with a SEED, n 1 .. 60, on paper"})
    static void centuriesAreOnPaper() {
        String[] free = new String[15];
        for (int k = 0; k < 14; k++) free[k] = "drawn " + k / 2 + " " + k % 2;
        free[14] = "status";
        Run.alike(Lands.rich().make("centuries 99 60"), Lands.rich(), free);
    }

    @Says({"IV", "A ROW: the TAPE's bytes by threes: two TOWNS, MILES (0: none): this ROAD"})
    static void rowsTellRoads() {
        Run x = Lands.three().make("close 0 1", "close 1 2");
        x.taken("row 0 1 99 2 1 0 2 0 1", 3);
        x.tells("sidings", 0);
        x.tells("between 0 1 0", 99);
        x.tells("between 0 1 1", 0);
        x.tells("between 1 2 0", 0);
        x.tells("between 1 2 1", 0);
        x.tells("between 0 2 0", 1);
        x.tells("count 2", 2);
        x.tells("count 3", 0);
        x.taken("row 0 1 7 1 0 8", 2);
        x.tells("between 0 1 0", 8);
        Run seven = Lands.seven();
        seven.taken("row 6 0 12", 1);
        seven.tells("between 0 6 0", 12);
        seven.taken("row 7 0 12", 0);
        seven.tells("sidings", 1);
    }

    @Says({"IV", "one that can't be, one within which the TAPE ends is a SIDING: nothing."})
    static void sidingsAreNothing() {
        for (String bytes : List.of("0 0 5", "0 3 5", "3 0 5", "0 1 100", "0 1 255", "0 1 128", "255 0 5", "0 255 5", "3 3 5", "0", "0 1", "255")) {
            Run x = Lands.three().make("close 0 1");
            x.taken("row " + bytes, 0);
            x.tells("sidings", 1);
            x.tells("between 0 1 0", 10);
            x.tells("between 0 1 1", 1);
            x.tells("count 2", 3);
            x.taken("row 0 2 9 " + bytes, 1);
            x.tells("sidings", 1);
            x.tells("between 0 2 0", 9);
        }
        Run none = new Run();
        none.taken("row 0 1 5", 0);
        none.tells("sidings", 1);
        Run all = Lands.three();
        all.taken("row 0 1 7 0 0 1 1 2 8 0 1 100 0 2", 2);
        all.tells("sidings", 3);
        all.tells("between 0 1 0", 7);
        all.tells("between 1 2 0", 8);
        all.tells("between 0 2 0", 20);
    }

    @Says({"IV", "IMAGES 0, 1 keep all but the TAPE, FAULT, SIDINGS, where ORDERS stopped, what can be undone (nothing, behind back()), the latest CENTURIES"})
    static void imagesDoNotKeepThese() {
        Run x = Lands.rich().make("image 0", "tape abc", "?orders pass;pass;pass;swap 0 with 0", "?law alters ;", "row 0 0 1 0 0 1 9", "close 0 1", "centuries 50 9", "tape abcd");
        long[] drawn = {x.ask("drawn 0 0"), x.ask("drawn 1 1"), x.ask("drawn 2 1")};
        x.taken("back 0", 0);
        x.tells("count 7", 4);
        x.tells("fault", 7);
        x.tells("sidings", 3);
        x.tells("stopped", 3);
        x.tells("count 6", 0);
        x.refused("undo", -3);
        x.tells("drawn 0 0", drawn[0]);
        x.tells("drawn 1 1", drawn[1]);
        x.tells("drawn 2 1", drawn[2]);
    }

    @Says({"IV", "BACK to one all that it keeps is as it was then (IMAGES stay)."})
    static void backToAllThatItKeeps() {
        String[] changes = {"town 9 9", "road 0 3 9", "road 0 1 0", "road 1 2 33", "terms 0 77", "terms 1 9", "terms 2 9", "force 1", "heard 1 1", "close 0 3", "close 0 2",
            "pass", "close 0 2", "swap 0 2", "pass"};
        for (int k = 0; k < 2; k++) {
            Run x = Lands.rich().make("image " + k).make(changes).make("law likes 77", "tape swap 0 with 2;pass");
            x.due("forget", 2);
            x.taken("back " + k, 0);
            Run y = Lands.rich().make("image " + k, "tape swap 0 with 2;pass", "back " + k);
            Run.alike(x, y, "fault");
            // What is changed behind it changes no IMAGE.
            x.make("forget", "heard 2 99").make(changes).make("back " + k);
            Run.alike(x, y, "fault");
        }
        Run x = new Run("image 0", "town 3 4", "town 5 6", "image 1", "back 0", "town 7 8", "back 1");
        x.tells("count 0", 2);
        x.tells("sunday 0 1", 3);
        x.tells("sunday 0 2", 4);
        x.tells("sunday 1 2", 6);
    }
}
