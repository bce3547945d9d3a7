import java.util.ArrayList;
import java.util.List;

/** The sentences of the promises 22 to 42 that name what is too small, too large, empty, full or refused. */
public final class AnswersEdgeTest {
    private static final String LOWEST = "-2147483648";
    private static final String HIGHEST = "2147483647";

    public static void main(String[] args) throws Exception {
        List<String> promises = new ArrayList<>();
        for (int i = 22; i <= 42; i++) promises.add("Promise " + i);
        Sentences.run(AnswersEdgeTest.class, promises);
    }

    /** Such a call has no answer for TOWNS that are not there; of those that are it has one. */
    private static void ofTownsAlone(String name) {
        Run x = Lands.rich();
        for (String town : List.of("3", "4", "6", "7", LOWEST, HIGHEST)) x.none(name + " " + town);
        for (int t = 0; t < 3; t++) if (x.ask(name + " " + t) < 0) Sentences.wrong(name + " " + t + " tells none");
        new Run().none(name + " 0", name + " 6");
        Run seven = Lands.seven();
        if (seven.ask(name + " 6") < 0) Sentences.wrong(name + " 6 tells none");
        seven.none(name + " 7");
    }

    @Says({"Promise 22", "Of RINGS how many there are (town NONE), how many TOWNS that of a TOWN has. NONE (others)."})
    static void ringsOrNone() {
        ofTownsAlone("rings");
        Lands.rich().none("rings -2", "rings " + LOWEST);
        new Run().tells("rings -1", 0);
        Lands.seven().tells("rings -1", 7);
        Run x = Lands.three().make("swap 0 2");
        x.tells("rings -1", 2);
        x.tells("rings 0", 2);
        x.tells("rings 1", 1);
        x.tells("rings 2", 2);
    }

    @Says({"Promise 23", "REPEATED (all are home: 1; no TOWNS: 1)."})
    static void repeatedAtLeastOnce() {
        new Run().tells("repeated", 1);
        new Run("town 1 1").tells("repeated", 1);
        Run x = Lands.seven();
        x.tells("repeated", 1);
        x.make("swap 0 6");
        x.tells("repeated", 2);
        x.make("swap 0 6");
        x.tells("repeated", 1);
    }

    @Says({"Promise 24", "MOST LIKED: how much (i NONE; no TOWNS: 0), the SUNDAY TOWN i has by it. NONE (no such TOWN)."})
    static void mostLikedOrNone() {
        ofTownsAlone("mostLiked");
        Lands.rich().none("mostLiked -2");
        new Run().tells("mostLiked -1", 0);
        Run x = Lands.ruled("likes 0");
        x.tells("mostLiked -1", 0);
        x.tells("mostLiked 2", 2);
        Run most = Lands.seven().make("law likes 99", "force 0");
        most.tells("mostLiked -1", 693);
        new Run("town 7 7").tells("mostLiked -1", 7);
    }

    @Says({"Promise 25", "NEW: how many MILES (i NONE; no TOWNS: 0), the SUNDAY TOWN i has by it. NONE (there is none; no such TOWN)."})
    static void anewOrNone() {
        new Run().tells("anew -1", 0);
        new Run().none("anew 0");
        Run x = Lands.three();
        x.tells("anew -1", 0);
        x.tells("anew 2", 2);
        x.none("anew 3", "anew -2", "anew 7", "anew " + LOWEST, "anew " + HIGHEST);
        x.make("pass", "close 0 1", "close 1 2", "close 0 2");
        x.none("anew -1", "anew 0", "anew 1", "anew 2", "anew 3", "anew -2");
        Run seven = Lands.seven().make("pass");
        seven.tells("anew -1", 35);
        seven.tells("anew 6", 4);
        seven.none("anew 7");
    }

    @Says({"Promise 26", "How many arrangements are NEW (no TOWNS: 1)."})
    static void newOnesFromNoneTo5040() {
        new Run().tells("newOnes", 1);
        Run x = new Run("town 1 1");
        x.tells("newOnes", 1);
        x.make("pass");
        x.tells("newOnes", 0);
        Run y = Lands.seven();
        y.tells("newOnes", 5040);
        y.make("pass");
        y.tells("newOnes", 1854);
    }

    @Says({"Promise 27", "HOME: how many SWAPS (i NONE), the i-th. NONE (it can't be; not so many)."})
    static void homeOrNone() {
        new Run().tells("home -1", 0);
        new Run().none("home 0");
        Lands.three().tells("home -1", 0);
        Run x = Lands.three().make("round 0 1 2");
        x.tells("home -1", 2);
        x.tells("home 0", 1);
        x.tells("home 1", 9);
        x.none("home 2", "home 3", "home -2", "home " + LOWEST, "home " + HIGHEST);
        x.make("close 0 1", "close 1 2");
        x.none("home -1", "home 0", "home -2");
        x.make("close 0 1");
        x.tells("home -1", 2);
        // It is asked anew whatever has become of all since.
        x.make("undo", "undo", "undo");
        x.tells("home -1", 2);
        x.tells("home 1", 9);
        x.make("undo");
        x.tells("home -1", 0);
        x.none("home 0");
        Run rich = Lands.rich();
        rich.tells("home -1", rich.ask("home -1"));
        rich.none("home 7", "home -3");
    }

    @Says({"Promise 28", "MARKET: the SUNDAY a TOWN has then. NONE."})
    static void marketOrNone() {
        ofTownsAlone("market");
        Lands.rich().none("market -1", "market -2");
        new Run("town 1 1").tells("market 0", 0);
    }

    @Says({"Promise 29", "BARGAINS: how many (i NONE), the i-th, rising, as 7 times the lower TOWN and the higher one. NONE."})
    static void bargainsOrNone() {
        new Run().tells("bargains -1", 0);
        new Run().none("bargains 0");
        Run none = Lands.ruled("likes own");
        none.tells("bargains -1", 0);
        none.none("bargains 0", "bargains -2", "bargains " + LOWEST, "bargains " + HIGHEST);
        Run all = Lands.seven().make("law likes 9 - own", "force 0");
        all.tells("bargains -1", 21);
        int i = 0;
        for (int a = 0; a < 7; a++) for (int b = a + 1; b < 7; b++) all.tells("bargains " + i++, 7 * a + b);
        all.none("bargains 21", "bargains 22", "bargains -2");
        Lands.rich().none("bargains 3", "bargains -2");
    }

    @Says({"Promise 30", "ENVY, as bits. NONE."})
    static void envyOrNone() {
        ofTownsAlone("envy");
        Lands.rich().none("envy -1", "envy -2");
        Run x = Lands.seven();
        x.tells("envy 0", 126);
        x.tells("envy 6", 0);
        new Run("town 1 1").tells("envy 0", 0);
    }

    @Says({"Promise 31", "HEARD: how often there was. -1 (n 0 .. 99); -2 (the SUNDAY); -5."})
    static void heardOrRefused() {
        Run x = Lands.rich();
        for (String call : List.of("heard 0 -1", "heard 0 100", "heard 2 " + LOWEST, "heard 2 " + HIGHEST, "heard 3 100")) x.refused(call, -1);
        for (String call : List.of("heard 3 5", "heard -1 5", "heard 7 0", "heard " + LOWEST + " 99", "heard " + HIGHEST + " 0")) x.refused(call, -2);
        x.taken("heard 0 0", 2);
        x.taken("heard 0 99", 3);
        x.taken("heard 2 99", 4);
        x.taken("heard 2 99", 5);
        x.taken("heard 1 5", 6);
        x.tells("count 4", 6);
        x.refused("heard 1 5", -5);
        x.refused("heard 0 0", -5);
        new Run().refused("heard 0 5", -2);
    }

    @Says({"Promise 31", "-1 (n 0 .. 99)"})
    static void heardByNoneAndBy99() {
        Run x = Lands.ruled("likes town * 99").make("heard 1 0");
        x.tells("canBe", 1);
        x.make("forget", "heard 1 99");
        x.tells("canBe", 6);
    }

    @Says({"Promise 31", "It leaves what can be undone."})
    static void heardLeavesWhatCanBeUndone() {
        Run x = Lands.three().make("swap 0 1", "pass");
        x.taken("heard 0 3", 1);
        x.refused("heard 9 3", -2);
        x.tells("count 6", 2);
        x.taken("undo", 3);
        x.taken("undo", 0);
        x.tells("count 4", 1);
        Run.alike(x, Lands.three().make("heard 0 3", "?heard 9 3", "?undo"), "status", "count 10");
    }

    @Says({"Promise 32", "HEARD is nothing then: how often there was."})
    static void forgetTellsHowOften() {
        new Run().tells("forget", 0);
        Lands.three().tells("forget", 0);
        Run x = Lands.rich();
        x.due("forget", 1);
        x.tells("count 4", 0);
        x.tells("canBe", 7);
        x.tells("forget", 0);
        for (int i = 1; i <= 6; i++) x.make("heard 2 " + i);
        x.make("?heard 9 9");
        x.due("forget", 6);
        // It is not one of the calls that status() tells of.
        x.tells("status", -2);
        x.taken("heard 0 3", 1);
        Run.alike(Lands.three().make("swap 0 1", "image 0", "heard 0 1", "heard 1 1", "forget"), Lands.three().make("swap 0 1", "image 0"));
    }

    @Says({"Promise 33", "IT CAN BE, as bits."})
    static void canBeAsBits() {
        new Run().tells("canBe", 0);
        new Run("town 1 1").tells("canBe", 1);
        Lands.seven().tells("canBe", 127);
        Run x = Lands.seven().make("law likes town", "force 0", "heard 3 6");
        x.tells("canBe", 64);
        x.make("heard 2 0");
        x.tells("canBe", 0);
    }

    @Says({"Promise 34", "To ASK of: the SUNDAY (what 0), how many TOWNS are left at most (1). NONE (it can be none)."})
    static void askOrNone() {
        new Run().none("ask 0", "ask 1", "ask 2", "ask -1");
        new Run("town 1 1").tells("ask 0", 0);
        new Run("town 1 1").tells("ask 1", 1);
        Run x = Lands.seven();
        x.tells("ask 0", 0);
        x.tells("ask 1", 7);
        x.none("ask 2", "ask -1", "ask " + LOWEST, "ask " + HIGHEST);
        x.make("law likes 1;likes town if sunday = 6", "force 0");
        x.tells("ask 0", 6);
        x.tells("ask 1", 1);
        x.make("heard 6 50");
        x.none("ask 0", "ask 1", "ask 2");
        Lands.rich().none("ask 2", "ask -1");
    }

    @Says({"Promise 35", "FEW, k 1 .. 20, n 0 .. 99. NONE."})
    static void fewOrNone() {
        Run x = Lands.rich();
        x.none("few 0 5", "few -1 5", "few 21 5", "few 1 -1", "few 1 100", "few " + LOWEST + " 5", "few " + HIGHEST + " 5", "few 1 " + LOWEST, "few 1 " + HIGHEST, "few 0 -1");
        x.tells("few 1 0", 1000000000000L);
        x.tells("few 20 0", 1000000000000L);
        x.tells("few 20 19", x.ask("few 20 19"));
        Run y = new Run("terms 1 0");
        y.tells("few 1 99", 1000000000000L);
        y.tells("few 20 99", 1000000000000L);
        y.make("terms 1 10");
        y.tells("few 20 99", 0);
        y.none("few 21 99", "few 20 100");
    }

    @Says({"Promise 36", "COMPARED. NONE (no such LAW, TOWN, SUNDAY)."})
    static void compareOrNone() {
        Run x = Lands.rich();
        x.none("compare 2 0 1", "compare -2 0 1", "compare 6 0 1", "compare " + LOWEST + " 0 1", "compare " + HIGHEST + " 0 1");
        x.none("compare 0 3 1", "compare 0 -1 1", "compare -1 3 0", "compare 1 7 1", "compare 0 " + LOWEST + " 0", "compare 0 " + HIGHEST + " 0");
        x.none("compare 0 0 3", "compare 0 0 -1", "compare -1 0 3", "compare 1 1 7", "compare 0 0 " + LOWEST, "compare 0 0 " + HIGHEST);
        x.tells("compare 1 2 0", 9 - x.ask("sunday 0 1"));
        x.tells("compare -1 2 0", x.ask("sunday 0 1"));
        x.tells("compare 0 2 0", x.ask("of 2 1"));
        new Run("law likes 5").none("compare 0 0 0", "compare -1 0 0");
    }

    @Says({"Promise 37", "CENTURIES, kept as the latest: how many SUNDAYS are home behind them. -1; -3 there are no TOWNS."})
    static void centuriesOrRefused() {
        Run x = Lands.rich();
        for (String call : List.of("centuries -1 1", "centuries 1000001 1", "centuries 0 0", "centuries 0 61", "centuries 0 -1", "centuries " + LOWEST + " 5",
            "centuries 5 " + HIGHEST)) x.refused(call, -1);
        Run none = new Run();
        none.refused("centuries 0 1", -3);
        none.refused("centuries 1000000 60", -3);
        none.refused("centuries 0 0", -1);
        none.none("drawn 0 0", "drawn 0 1");
        Run one = new Run("town 3 3");
        one.taken("centuries 0 1", 1);
        one.taken("centuries 1000000 60", 1);
        one.tells("drawn 0 0", 0);
        one.tells("drawn 0 1", 3);
    }

    @Says({"Promise 37", "CENTURIES, kept as the latest"})
    static void theLatestCenturiesAreKept() {
        Run x = Lands.ruled("alters bells + 1").make("terms 0 998", "centuries 3 5");
        x.tells("drawn 0 1", 4);
        x.make("terms 0 996", "centuries 3 5");
        x.tells("drawn 0 1", 6);
        x.refused("centuries 3 61", -1);
        x.tells("drawn 0 1", 6);
        x.make("terms 0 999", "centuries 3 5");
        x.tells("drawn 0 1", 3);
        // Back where there are no TOWNS they are the latest yet.
        Run y = new Run("image 0", "town 3 3", "town 4 4", "centuries 1 1", "back 0");
        y.refused("centuries 1 1", -3);
        y.tells("drawn 1 0", 1);
        y.tells("drawn 1 1", 4);
        y.none("drawn 2 0");
    }

    @Says({"Promise 38", "Behind the latest CENTURIES the SUNDAY TOWN k has (what 0), BELLS of SUNDAY k (1). NONE."})
    static void drawnOrNone() {
        Lands.three().none("drawn 0 0", "drawn 0 1");
        Run x = Lands.three().make("swap 0 1", "terms 0 999", "centuries 0 1");
        int[] told = {1, 3, 0, 5, 2, 1};
        for (int i = 0; i < told.length; i++) x.tells("drawn " + i / 2 + " " + i % 2, told[i]);
        x.none("drawn 3 0", "drawn 3 1", "drawn -1 0", "drawn 7 0", "drawn " + LOWEST + " 0", "drawn " + HIGHEST + " 1");
        x.none("drawn 0 2", "drawn 0 -1", "drawn 0 " + LOWEST, "drawn 0 " + HIGHEST);
        x.make("town 9 9", "swap 0 1");
        x.tells("drawn 0 0", 1);
        x.none("drawn 3 0");
        Run seven = Lands.seven().make("terms 0 999", "centuries 0 1");
        seven.tells("drawn 6 0", 6);
        seven.tells("drawn 6 1", 7);
        seven.none("drawn 7 0");
    }

    @Says({"Promise 39", "IMAGE k is kept: 0; -1."})
    static void imagesOrRefused() {
        Run x = Lands.rich();
        for (String k : List.of("-1", "2", "3", LOWEST, HIGHEST)) x.refused("image " + k, -1);
        x.taken("image 0", 0);
        x.taken("image 1", 0);
        x.taken("image 1", 0);
        Run none = new Run();
        none.refused("image 2", -1);
        none.taken("image 0", 0);
        // It changes nothing but the IMAGE, and each IMAGE is by itself.
        Run.alike(Lands.rich().make("image 0", "image 1"), Lands.rich().make("image 1", "image 0"));
        Run y = Lands.three().make("swap 0 1", "image 0", "swap 0 1", "image 1", "swap 0 2");
        y.taken("back 0", 0);
        y.tells("of 0 0", 1);
        y.taken("back 1", 0);
        y.tells("of 0 0", 0);
        y.make("swap 1 2", "image 0", "swap 1 2", "back 0");
        y.tells("of 1 0", 2);
        y.make("swap 1 2", "undo");
        y.tells("of 1 0", 2);
        y.make("back 1");
        y.tells("of 1 0", 1);
        Run undone = Lands.three().make("swap 0 1", "image 0");
        undone.tells("count 6", 1);
        undone.taken("undo", 0);
    }

    @Says({"Promise 40", "BACK to IMAGE k: 0. -1; -2 it was not kept."})
    static void backOrRefused() {
        Run x = Lands.rich();
        for (String k : List.of("-1", "2", "3", LOWEST, HIGHEST)) x.refused("back " + k, -1);
        x.taken("back 1", 0);
        x.taken("back 0", 0);
        Run none = Lands.three().make("swap 0 1", "pass");
        none.refused("back 0", -2);
        none.refused("back 1", -2);
        none.refused("back 2", -1);
        none.taken("image 1", 0);
        none.refused("back 0", -2);
        none.taken("back 1", 0);
        Run empty = new Run("image 0");
        empty.make(Lands.THREE).make("law likes 5", "force 0", "heard 0 5", "terms 1 5", "swap 0 1", "pass", "close 0 2");
        empty.taken("back 0", 0);
        Run.alike(empty, new Run("image 0"));
        // What was there behind the IMAGE is not there when TOWNS come anew.
        empty.make("town 3 1", "town 5 0", "town 1 9");
        Run.alike(empty, new Run("image 0", "town 3 1", "town 5 0", "town 1 9"));
    }

    @Says({"Promise 41", "0 TOWNS, 1 SUNDAYS that are home, 2 ROADS (each once), 3 how many of them are CLOSED, 4 HEARD, 5 LAWS, 6 how many can be undone, 7 bytes of the TAPE"})
    static void countsOfWhatThereIs() {
        Run x = Lands.rich();
        int[] told = {3, 0, 3, 1, 1, 2, 4, 18};
        for (int i = 0; i < told.length; i++) x.tells("count " + i, told[i]);
        Run y = Lands.seven();
        y.tells("count 0", 7);
        y.tells("count 1", 7);
        y.tells("count 2", 21);
        y.tells("count 3", 0);
        for (int a = 0; a < 7; a++) for (int b = a + 1; b < 7; b++) y.make("close " + a + " " + b);
        y.tells("count 2", 21);
        y.tells("count 3", 21);
        y.tells("count 6", 16);
        y.make("road 0 1 0", "road 0 2 9");
        y.tells("count 2", 20);
        y.tells("count 3", 19);
    }

    @Says({"Promise 41", "8 .. 12 how many calls were REFUSED by -1, -2, -3, -5, -6 (IMAGES do not keep that)"})
    static void countsOfWhatWasRefused() {
        Run x = Lands.seven().make("image 0");
        String[] refused = {"swap 0 0", "swap 0 7", "undo", "town 1 1", "row"};
        for (int i = 0; i < 5; i++) {
            for (int k = 0; k <= i; k++) x.make("?" + refused[i]);
            x.tells("count " + (8 + i), i + 1);
        }
        x.make("image 1", "?swap 0 0", "back 0", "back 1");
        int[] told = {2, 2, 3, 4, 5};
        for (int i = 0; i < 5; i++) x.tells("count " + (8 + i), told[i]);
    }

    @Says({"Promise 41", "8 .. 12 how many calls were REFUSED by -1, -2, -3, -5, -6"})
    static void whatIsNotCounted() {
        // NONE is no refusal, and what stops ORDERS is one call that is refused by -3.
        Run x = Lands.rich();
        x.none("end -1", "end 400", "of 9 0", "sunday 9 0", "few 0 0", "home 9", "compare 9 9 9", "drawn 9 9", "count 99", "ask 9");
        x.taken("force -1", 0);
        x.taken("force -1", -1);
        x.refusedOrders("swap 0 with 0", 0);
        x.refusedOrders("swap 0 with 9", 0);
        x.tells("count 8", 0);
        x.tells("count 9", 0);
        x.tells("count 10", 3);
        x.tells("count 11", 0);
        x.tells("count 12", 1);
        // What can't be on paper is no call.
        x.make("centuries 77 60");
        x.tells("count 8", 0);
        x.tells("count 10", 3);
    }

    @Says({"Promise 41", "13 the LAW in FORCE, 14 .. 16 TERMS 0 .. 2. NONE for others."})
    static void countsOfTheRest() {
        Run x = Lands.rich();
        int[] told = {0, 1, 3, 4};
        for (int i = 0; i < told.length; i++) x.tells("count " + (13 + i), told[i]);
        x.none("count -1", "count 17", "count 18", "count " + LOWEST, "count " + HIGHEST);
        x.make("force -1");
        x.none("count 13");
        new Run().none("count 13", "count -1", "count 17");
    }

    @Says({"Promise 42", "What the latest call of town, road, terms, row, law, orders, force, swap, round, close, pass, undo, heard, centuries, image, back was REFUSED by; 0 if it was not"})
    static void statusOfEachCall() {
        String[][] calls = {
            {"town 1 1", "town 10 1", "-1"}, {"road 0 1 9", "road 0 9 9", "-2"}, {"terms 0 5", "terms 3 5", "-1"}, {"row 0 1 9", "row", "-6"}, {"law bars", "law bar", "-6"},
            {"orders pass", "orders swap 0 with 0", "-3"}, {"force 1", "force 9", "-2"}, {"swap 0 2", "swap 0 9", "-2"}, {"round 0 2 1", "round 0 1 1", "-1"},
            {"close 0 1", "close 0 0", "-1"}, {"heard 0 1", "heard 9 1", "-2"}, {"centuries 0 1", "centuries 0 0", "-1"}, {"image 0", "image 2", "-1"}, {"back 0", "back 2", "-1"}};
        for (String[] call : calls) {
            Run x = Lands.rich().make("close 1 2", "?swap 9 9");
            x.due("status", -1);
            x.make(call[0]);
            x.due("status", 0);
            x.make("?" + call[1]);
            x.due("status", Integer.parseInt(call[2]));
            x.make("image 1");
            x.due("status", 0);
        }
        Run moved = Lands.three().make("?swap 9 9");
        moved.taken("pass", 9);
        moved.make("?swap 9 9");
        moved.taken("undo", 3);
        Run x = Lands.three();
        x.refused("undo", -3);
        x.make("terms 0 999");
        x.tells("status", 0);
        x.refused("pass", -3);
        x.make("?orders");
        x.tells("status", -6);
        x.make("?orders swap 0 with 9");
        x.tells("status", -3);
        x.taken("force -1", -1);
    }

    @Says({"Promise 42", "or ahead of any."})
    static void statusAheadOfAny() {
        Run x = new Run();
        x.tells("status", 0);
        x.due("feed 1 2 3 4 5", 20);
        x.due("end 21", -1);
        x.due("of 0 0", -1);
        x.due("forget", 0);
        x.tells("status", 0);
    }

    @Says({"Promise 42", "What the latest call of town, road, terms, row, law, orders, force, swap, round, close, pass, undo, heard, centuries, image, back was REFUSED by"})
    static void otherCallsLeaveTheStatus() {
        for (String ahead : List.of("?heard 9 1", "?swap 0 1", "terms 2 2")) {
            Run x = Lands.rich().make("end 18", ahead);
            long status = x.ask("status");
            for (String call : List.of("feed 1 2 3 4 5", "end 18", "end 19", "forget", "forget", "of 0 0", "of 9 0", "sunday 0 3", "between 0 1 0", "sidings", "fault", "stopped",
                "rings -1", "repeated", "mostLiked -1", "anew -1", "newOnes", "home -1", "market 0", "bargains -1", "envy 0", "canBe", "ask 0", "few 1 1", "compare 0 0 0",
                "drawn 0 0", "count 0", "count 99")) {
                x.make(call);
                x.due("status", status);
            }
        }
    }
}
