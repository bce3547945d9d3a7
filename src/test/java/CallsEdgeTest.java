import java.util.ArrayList;
import java.util.List;
import java.util.Set;

/** The sentences of the promises 1 to 21 that name what is too small, too large, empty, full or refused. */
public final class CallsEdgeTest {
    private static final String LOWEST = "-2147483648";
    private static final String HIGHEST = "2147483647";

    public static void main(String[] args) throws Exception {
        List<String> promises = new ArrayList<>();
        for (int i = 1; i <= 21; i++) promises.add("Promise " + i);
        Sentences.run(CallsEdgeTest.class, promises);
    }

    @Says({"Promise 1", "A union without towns."})
    static void newObjectHasNone() {
        Run x = new Run();
        int[] counts = {0, 0, 0, 0, 0, 0, 0, 0, 0, 0, 0, 0, 0, -1, 0, 1, 0};
        for (int i = 0; i < counts.length; i++) x.tells("count " + i, counts[i]);
        x.tells("status", 0);
        x.tells("sidings", 0);
        x.tells("repeated", 1);
        x.tells("mostLiked -1", 0);
        x.tells("anew -1", 0);
        x.tells("newOnes", 1);
        x.tells("home -1", 0);
        x.tells("rings -1", 0);
        x.tells("bargains -1", 0);
        x.tells("canBe", 0);
        x.none("fault", "stopped", "of 0 0", "sunday 0 0", "between 0 1 0", "rings 0", "mostLiked 0", "anew 0", "home 0", "market 0", "bargains 0", "envy 0", "ask 0",
            "ask 1", "compare -1 0 0", "drawn 0 0", "drawn 0 1");
    }

    @Says({"Promise 1", "A union without towns."})
    static void newObjectRefuses() {
        Run x = new Run();
        x.refused("road 0 1 5", -2);
        x.refused("row", -6);
        x.refusedText("law", "", 0);
        x.refusedText("orders", "", 0);
        x.refused("force 0", -2);
        x.refused("swap 0 1", -2);
        x.refused("round 0 1 2", -2);
        x.refused("close 0 1", -2);
        x.refused("undo", -3);
        x.refused("heard 0 1", -2);
        x.refused("centuries 0 1", -3);
        x.refused("back 0", -2);
        x.taken("pass", 0);
        x.taken("undo", 3);
    }

    @Says({"Promise 2", "A TOWN with its SUNDAY: the number of both."})
    static void numbersOfTowns() {
        Run x = new Run();
        for (int t = 0; t < 7; t++) {
            x.taken("town " + t + " " + (9 - t), t);
            x.tells("count 0", t + 1);
            x.tells("sunday " + t + " 1", t);
            x.tells("sunday " + t + " 2", 9 - t);
            x.tells("sunday " + t + " 0", t);
            x.none("of " + (t + 1) + " 0");
            if (t < 6) x.none("of 0 " + (2 + t));
        }
    }

    @Says({"Promise 2", "-1; -5."})
    static void townsRefused() {
        Run x = Lands.rich();
        for (String call : List.of("town -1 0", "town 10 0", "town 0 -1", "town 0 10", "town 10 10", "town " + LOWEST + " 0", "town 0 " + HIGHEST)) x.refused(call, -1);
        Run full = Lands.seven().make("swap 0 1", "pass");
        full.refused("town 0 0", -5);
        full.refused("town 9 9", -5);
    }

    @Says({"Promise 3", "Of a TOWN the SUNDAY it has (what 0), how it LIKES SUNDAY s (1 + s), how often it HAD it (8 + s), whether it could be SENT there or is there (15 + s: 1, 0)."})
    static void whatIsToldOfTowns() {
        Run x = Lands.seven().make("pass", "swap 0 6", "close 0 1", "pass", "pass");
        x.tells("of 0 0", 6);
        x.tells("of 0 1", 1);
        x.tells("of 0 7", 7);
        x.tells("of 0 8", 1);
        x.tells("of 0 14", 2);
        x.tells("of 6 14", 1);
        x.tells("of 0 15", 1);
        x.tells("of 0 16", 0);
        x.tells("of 0 17", 1);
        x.tells("of 0 21", 1);
        x.tells("of 1 15", 1);
        x.tells("of 1 21", 0);
    }

    @Says({"Promise 3", "NONE (no SUNDAY s, too)."})
    static void noneOfTowns() {
        Run x = Lands.rich();
        x.none("of -1 0", "of 3 0", "of 7 0", "of " + LOWEST + " 0", "of " + HIGHEST + " 0", "of 3 1", "of -1 8", "of 3 18");
        x.none("of 0 -1", "of 0 22", "of 0 23", "of 0 " + LOWEST, "of 0 " + HIGHEST);
        x.none("of 0 4", "of 0 7", "of 0 11", "of 0 14", "of 0 18", "of 0 21");
        Lands.seven().none("of 0 22", "of 6 22", "of 7 1", "of 6 -1");
    }

    @Says({"Promise 4", "Of a SUNDAY the TOWN that has it (what 0), BELLS (1), HATS (2), BELLS to which it ALTERS (3). NONE."})
    static void whatIsToldOfSundays() {
        Run x = Lands.ruled("alters bells + 1 + town").make("round 0 1 2");
        int[] told = {1, 3, 1, 5, 2, 5, 0, 8, 0, 1, 9, 2};
        for (int i = 0; i < told.length; i++) x.tells("sunday " + i / 4 + " " + i % 4, told[i]);
        x.none("sunday 3 0", "sunday -1 0", "sunday 7 1", "sunday " + LOWEST + " 0", "sunday " + HIGHEST + " 3");
        x.none("sunday 0 4", "sunday 0 -1", "sunday 0 " + LOWEST, "sunday 0 " + HIGHEST);
        Lands.rich().none("sunday 3 3", "sunday 0 4");
    }

    @Says({"Promise 5", "MILES 0 .. 99 (0: there is none then)"})
    static void milesFromNoneTo99() {
        Run x = Lands.rich();
        for (String miles : List.of("-1", "100", LOWEST, HIGHEST)) x.refused("road 0 1 " + miles, -1);
        x.taken("road 0 1 99", 10);
        x.tells("between 0 1 0", 99);
        x.taken("road 0 1 1", 99);
        x.tells("between 0 1 0", 1);
        x.tells("count 2", 3);
        x.taken("road 0 1 0", 1);
        x.tells("between 0 1 0", 0);
        x.tells("count 2", 2);
        x.tells("of 0 15", 0);
        x.taken("road 0 1 0", 0);
    }

    @Says({"Promise 5", "not CLOSED then"})
    static void roadsAreNotClosedThen() {
        Run x = Lands.three().make("close 0 1", "close 1 2", "close 0 2");
        x.taken("road 0 1 10", 10);
        x.tells("between 0 1 1", 0);
        x.taken("road 1 2 0", 5);
        x.tells("between 1 2 1", 0);
        x.tells("count 3", 1);
        x.taken("road 1 2 5", 0);
        x.tells("between 1 2 1", 0);
        // One that is refused leaves it CLOSED.
        x.refused("road 0 2 100", -1);
        x.tells("between 0 2 1", 1);
    }

    @Says({"Promise 5", "what MILES were"})
    static void whatMilesWere() {
        Run x = new Run("town 1 1", "town 2 2");
        x.taken("road 0 1 99", 0);
        x.taken("road 1 0 1", 99);
        x.taken("road 0 1 0", 1);
        x.taken("road 0 1 3", 0);
    }

    @Says({"Promise 5", "-1 (one alone, too); -2."})
    static void roadsRefused() {
        Run x = Lands.rich();
        for (String call : List.of("road 0 0 5", "road 2 2 0", "road 3 3 5", "road 1 1 100", "road 0 3 100")) x.refused(call, -1);
        for (String call : List.of("road 0 3 5", "road 3 0 5", "road -1 0 5", "road 0 -1 0", "road 0 7 5", "road " + LOWEST + " 1 5", "road 1 " + HIGHEST + " 5")) x.refused(call, -2);
    }

    @Says({"Promise 6", "MILES of a ROAD (what 0; 0: none), whether CLOSED (1: 1, 0). NONE (one alone; others)."})
    static void whatIsToldOfRoads() {
        Run x = Lands.rich();
        x.tells("between 1 2 0", 5);
        x.tells("between 2 1 0", 5);
        x.tells("between 1 2 1", 1);
        x.tells("between 2 1 1", 1);
        x.tells("between 0 1 1", 0);
        x.make("road 0 1 0");
        x.tells("between 0 1 0", 0);
        x.tells("between 0 1 1", 0);
        x.none("between 0 0 0", "between 1 1 1", "between 3 3 0", "between 0 3 0", "between 3 0 1", "between -1 0 0", "between 0 -1 1", "between 0 7 0",
            "between 0 1 2", "between 0 1 -1", "between 0 1 " + LOWEST, "between 0 1 " + HIGHEST, "between " + LOWEST + " 0 0", "between 0 " + HIGHEST + " 0");
    }

    @Says({"Promise 7", "A TERM: what it was. -1."})
    static void termsTellWhatTheyWere() {
        Run x = Lands.rich();
        x.taken("terms 0 999", 1);
        x.taken("terms 0 0", 999);
        x.taken("terms 1 10", 3);
        x.taken("terms 1 0", 10);
        x.taken("terms 2 9", 4);
        x.taken("terms 2 0", 9);
        x.taken("terms 2 0", 0);
        for (String call : List.of("terms -1 0", "terms 3 0", "terms " + LOWEST + " 0", "terms " + HIGHEST + " 0", "terms 0 1000", "terms 0 -1", "terms 1 11", "terms 1 -1",
            "terms 2 10", "terms 2 -1", "terms 0 " + LOWEST, "terms 2 " + HIGHEST)) x.refused(call, -1);
    }

    @Says({"Promise 8", "Twenty bytes come behind the TAPE, four of each number, the highest first: how many it has."})
    static void twentyBytesOfFiveNumbers() {
        Run x = Lands.three().make("close 0 1");
        // 0 1 9 | 1 2 8 | 2 0 255 | 127 0 128 | 1 0 7 | 0 0 0 | 0 0
        x.due("feed 67841 34079232 -8454016 16779008 0", 20);
        x.taken("row", 3);
        x.tells("sidings", 4);
        x.tells("between 0 1 0", 7);
        x.tells("between 1 2 0", 8);
        x.tells("between 0 2 0", 20);
        // Behind what there is: "pass" and blanks, then "; pass".
        Run y = Lands.three().make("tape pass");
        y.due("feed 538976288 538976288 538976288 538976288 538976371", 24);
        y.due("end 23", 23);
        y.due("feed 993026419 1931502691 1937203560 538976288 538976288", 43);
        y.due("end 8", 8);
        y.taken("orders", 1);
        y.due("feed 1885434739 997220723 1931485216 538976288 538976288", 20);
        y.due("end 9", 9);
        y.taken("orders", 2);
    }

    @Says({"Promise 8", "NONE, if there would be more than 400."})
    static void tapeOf400Bytes() {
        Run x = Lands.rich().make("end 0");
        String five = "feed 538976288 538976288 538976288 538976288 538976288";
        for (int i = 1; i <= 19; i++) x.due(five, 20 * i);
        x.due("end 380", 380);
        x.due(five, 400);
        x.none("feed 1 2 3 4 5");
        x.tells("count 7", 400);
        for (int i = 399; i > 380; i -= 9) {
            x.due("end " + i, i);
            x.none("feed 1 2 3 4 5");
            x.tells("count 7", i);
        }
        x.due("end 381", 381);
        x.none("feed 1 2 3 4 5");
        x.due("end 380", 380);
        x.due("feed 538976288 538976288 538976288 538976288 1885434739", 400);
        x.taken("orders", 1);
    }

    @Says({"Promise 9", "The TAPE has its first n bytes alone: n."})
    static void endOfTheTape() {
        Run x = Lands.three().make("tape pass;swap 0 with 1");
        x.due("end 18", 18);
        x.due("end 18", 18);
        x.due("end 4", 4);
        x.tells("count 7", 4);
        x.taken("orders", 1);
        x.due("end 0", 0);
        x.make("tape pass");
        x.due("end 0", 0);
        x.tells("count 7", 0);
        x.refused("row", -6);
    }

    @Says({"Promise 9", "NONE, if it has not so many, or n is below 0."})
    static void endWhereThereIsNone() {
        Run x = Lands.rich();
        x.none("end 19", "end 20", "end 400", "end 401", "end -1", "end " + LOWEST, "end " + HIGHEST);
        x.due("end 18", 18);
        new Run().none("end 1", "end -1");
        new Run().tells("end 0", 0);
    }

    @Says({"Promise 10", "A ROW, the TAPE is empty then: how many ROADS were told (none of them CLOSED then)."})
    static void rowsEmptyTheTape() {
        Run x = Lands.three().make("close 0 1", "close 1 2");
        x.taken("row 0 1 10 2 0 7 1 1 5", 2);
        x.tells("count 7", 0);
        x.tells("between 0 1 1", 0);
        x.tells("between 1 2 1", 1);
        x.tells("count 3", 1);
        x.taken("row 1 2 0", 1);
        x.tells("between 1 2 0", 0);
        x.tells("count 3", 0);
        x.taken("row 5", 0);
        x.tells("count 7", 0);
        // 133 threes and a byte.
        Run long400 = Lands.three();
        String five = "feed 66560 65540 1024 67108864 65540";
        for (int i = 0; i < 20; i++) long400.make(five);
        long answered = long400.ask("row");
        if (answered + long400.ask("sidings") != 134) Sentences.wrong("row of 400 bytes told " + answered);
    }

    @Says({"Promise 10", "-6 the TAPE is empty."})
    static void emptyRowRefused() {
        Lands.rich().make("end 0").refused("row", -6);
        new Run().refused("row", -6);
        Run x = Lands.three().make("row 0 1 3", "swap 0 1");
        x.refused("row", -6);
        x.tells("count 6", 1);
    }

    @Says({"Promise 11", "How many SIDINGS the latest row() had that was not REFUSED (0 ahead of any)."})
    static void sidingsOfTheLatestRow() {
        Run x = Lands.three();
        x.tells("sidings", 0);
        x.refused("row", -6);
        x.tells("sidings", 0);
        x.make("row 0 0 1 0 0 1 0");
        x.tells("sidings", 3);
        x.refused("row", -6);
        x.tells("sidings", 3);
        x.make("tape x");
        x.due("law", -6);
        x.tells("sidings", 3);
        x.make("row 0 1 1");
        x.tells("sidings", 0);
    }

    @Says({"Promise 12", "The TAPE, which is empty then, becomes a LAW: its number."})
    static void lawsFromTheTape() {
        Run x = Lands.three();
        for (int i = 0; i < 6; i++) {
            x.taken("law likes " + (10 + i), i);
            x.tells("count 7", 0);
            x.tells("count 5", i + 1);
            x.tells("count 13", -1);
            x.tells("compare " + i + " 0 1", 10 + i);
        }
        // LAWS stay what they are when others are read.
        for (int i = 0; i < 6; i++) x.tells("compare " + i + " 0 1", 10 + i);
        x.make("orders pass");
        x.tells("compare 0 2 2", 10);
    }

    @Says({"Promise 12", "-5 (ahead of reading it; the TAPE is empty then, too)"})
    static void noSeventhLaw() {
        Run x = Lands.rich().make("law likes 3", "law likes 4", "law likes 5", "law likes 6");
        x.make("?orders pass x");
        for (String text : List.of("likes 7", "nonsense", "   ", "likes 1001")) {
            x.make("tape " + text);
            x.refusedLike("law", -5, List.of("end 0"), Set.of());
            x.tells("count 7", 0);
            x.tells("fault", 5);
        }
        x.refused("law", -5);
    }

    @Says({"Promise 12", "-6 (blanks alone: FAULT at the end)."})
    static void lawsThatCannotBe() {
        Lands.rich().refusedText("law", " ", 1);
        Lands.rich().refusedText("law", "    ", 4);
        Lands.rich().refusedText("law", " ".repeat(400), 400);
        Lands.rich().refusedText("law", "", 0);
        Lands.rich().refusedText("law", "likes 5;likes", 13);
        Lands.rich().refusedText("law", "pass", 0);
        // None of a TEXT with a FAULT is a LAW.
        Run x = Lands.three();
        x.refusedText("law", "likes 5;bars;x", 13);
        x.tells("count 5", 0);
        x.taken("law likes 5", 0);
    }

    @Says({"Promise 12", "It leaves what can be undone."})
    static void lawsLeaveWhatCanBeUndone() {
        Run x = Lands.three().make("swap 0 1", "close 0 2", "pass");
        x.taken("law alters 9;bars", 0);
        x.tells("count 6", 3);
        x.refusedText("law", "bars 3", 5);
        x.tells("count 6", 3);
        x.taken("undo", 3);
        x.taken("undo", 2);
        x.taken("undo", 0);
        x.tells("count 5", 1);
        Run.alike(x, Lands.three().make("law alters 9;bars", "?law bars 3", "?undo"), "status", "count 10");
    }

    @Says({"Promise 13", "ORDERS, the TAPE is empty then: how many were run."})
    static void ordersTellHowManyWereRun() {
        Run x = Lands.three();
        x.taken("orders pass if 1 = 2", 0);
        x.tells("count 7", 0);
        x.taken("orders pass times 20", 20);
        x.taken("orders swap 0 with 1;pass times 3 if year < 22;round 0 to 1 to 2", 4);
        x.tells("count 7", 0);
        x.tells("count 14", 22);
        Run most = Lands.three();
        most.taken("orders " + "pass times 20;".repeat(11) + "pass times 20", 240);
        most.tells("count 14", 240);
        most.tells("count 6", 16);
    }

    @Says({"Promise 13", "-3 one can't be"})
    static void ordersThatCannotBe() {
        Lands.rich().refusedOrders("swap 0 with 0", 0);
        Lands.rich().refusedOrders("pass times 20;swap 0 with 2;road 0 to 1;pass;swap 1 with 2", 4);
        Lands.rich().refusedOrders("pass;".repeat(11) + "swap 0 with 3", 11);
    }

    @Says({"Promise 13", "-6 (as for law())."})
    static void ordersThatCannotBeRead() {
        Lands.rich().refusedText("orders", " ", 1);
        Lands.rich().refusedText("orders", "     ", 5);
        Lands.rich().refusedText("orders", "", 0);
        Lands.rich().refusedText("orders", "pass;swap 0 with 2;x", 19);
        Lands.rich().refusedText("orders", "bars", 0);
    }

    @Says({"Promise 14", "FAULT of the latest law(), orders() that read a TEXT: its place; NONE without."})
    static void faultOfTheLatestText() {
        Run x = Lands.three();
        x.tells("fault", -1);
        x.make("?law likes x");
        x.tells("fault", 6);
        x.make("?orders pass x");
        x.tells("fault", 5);
        x.make("orders pass");
        x.tells("fault", -1);
        x.make("?orders x");
        x.tells("fault", 0);
        x.make("?orders swap 0 with 0");
        x.tells("fault", -1);
        x.make("?law x");
        x.make("law likes 5");
        x.tells("fault", -1);
        x.make("?law bars 7");
        for (String call : List.of("swap 0 1", "pass", "undo", "image 0", "back 0", "row 0 1 9", "centuries 1 1", "force 0", "?row", "?swap 0 0", "end 0", "heard 0 1", "forget")) {
            x.make(call);
            x.due("fault", 5);
        }
        // law() that is refused ahead of reading reads no TEXT.
        for (int i = 1; i < 6; i++) x.make("law likes 5");
        x.make("?orders pass;x");
        x.due("fault", 5);
        x.make("tape x");
        x.due("law", -5);
        x.due("fault", 5);
    }

    @Says({"Promise 15", "Which CLAUSE (0 on) of the latest orders() could not be. NONE (that was done, or REFUSED by -6; ahead of any)."})
    static void stoppedAtTheClause() {
        Run x = Lands.three();
        x.tells("stopped", -1);
        x.make("?orders swap 0 with 0");
        x.tells("stopped", 0);
        x.make("?orders pass;pass times 5;swap 0 with 9;pass");
        x.tells("stopped", 2);
        for (String call : List.of("swap 0 1", "pass", "undo", "image 0", "back 0", "row 0 1 9", "law likes 5", "?law x", "?swap 0 0", "end 0", "?row", "force 0")) {
            x.make(call);
            x.due("stopped", 2);
        }
        x.make("?orders pass;".concat("pass;".repeat(10)).concat("road 0 to 0"));
        x.tells("stopped", 11);
        x.make("orders pass");
        x.tells("stopped", -1);
        x.make("?orders road 0 to 0");
        x.tells("stopped", 0);
        x.make("?orders nonsense");
        x.tells("stopped", -1);
        x.make("?orders road 0 to 0", "?orders");
        x.tells("stopped", -1);
    }

    @Says({"Promise 16", "A LAW is in FORCE (NONE: none): which was. -2."})
    static void forceTellsWhichWas() {
        Run x = Lands.rich();
        for (String law : List.of("2", "6", "-2", LOWEST, HIGHEST)) x.refused("force " + law, -2);
        x.taken("force 1", 0);
        x.tells("count 13", 1);
        x.taken("force -1", 1);
        x.tells("count 13", -1);
        x.taken("force -1", -1);
        x.taken("force 0", -1);
        x.taken("force 0", 0);
        Run none = new Run();
        none.refused("force 0", -2);
        none.taken("force -1", -1);
    }

    @Says({"Promise 16", "It leaves what can be undone."})
    static void forceLeavesWhatCanBeUndone() {
        Run x = Lands.three().make("law bars;alters 9", "swap 0 1", "close 0 2", "pass");
        x.taken("force 0", -1);
        x.tells("count 6", 3);
        x.refused("force 9", -2);
        x.tells("count 6", 3);
        x.taken("undo", 3);
        x.taken("undo", 2);
        x.taken("undo", 0);
        x.tells("count 13", 0);
        Run.alike(x, Lands.three().make("law bars;alters 9", "force 0", "?force 9", "?undo"), "status", "count 10");
    }

    @Says({"Promise 17", "To SWAP: the SUNDAY the first one has then."})
    static void swapTellsWhatTheFirstHas() {
        Run x = Lands.three();
        x.taken("swap 0 2", 2);
        x.taken("swap 0 1", 1);
        x.taken("swap 2 0", 1);
        x.tells("of 2 0", 1);
        Lands.seven().taken("swap 6 0", 0);
    }

    @Says({"Promise 17", "-1 (one alone); -2; -3."})
    static void swapsRefused() {
        Run x = Lands.rich();
        for (String call : List.of("swap 0 0", "swap 2 2", "swap 3 3", "swap -1 -1")) x.refused(call, -1);
        for (String call : List.of("swap 0 3", "swap 3 0", "swap -1 0", "swap 0 -1", "swap 7 8", "swap " + LOWEST + " " + HIGHEST)) x.refused(call, -2);
        x.refused("swap 1 2", -3);
        x.refused("swap 2 1", -3);
        x.make("road 0 1 0");
        x.refused("swap 0 1", -3);
        // TOWN 0 has SUNDAY 2, which is barred from TOWN 1.
        Run barred = Lands.rich();
        barred.refused("swap 0 1", -3);
        barred.refused("swap 1 0", -3);
    }

    @Says({"Promise 18", "ROUND: the SUNDAY the first one has then."})
    static void roundTellsWhatTheFirstHas() {
        Run x = Lands.three();
        x.taken("round 0 1 2", 2);
        x.taken("round 1 2 0", 2);
        x.taken("round 2 0 1", 2);
        x.tells("count 1", 3);
        Lands.seven().taken("round 6 5 0", 0);
    }

    @Says({"Promise 18", "-1 (two of them are one); -2; -3."})
    static void roundsRefused() {
        Run x = Lands.rich();
        for (String call : List.of("round 0 0 1", "round 0 1 1", "round 0 1 0", "round 2 2 2", "round 5 5 0", "round 0 9 9", "round -1 0 -1")) x.refused(call, -1);
        for (String call : List.of("round 3 0 1", "round 0 3 1", "round 0 1 3", "round -1 0 1", "round 0 -1 1", "round 0 1 -1", "round 7 8 9",
            "round 0 " + LOWEST + " " + HIGHEST)) x.refused(call, -2);
        for (String call : List.of("round 0 1 2", "round 2 1 0", "round 1 2 0")) x.refused(call, -3);
        x.make("road 1 2 5", "road 0 2 0");
        x.refused("round 1 0 2", -3);
    }

    @Says({"Promise 19", "A ROAD is CLOSED or not: whether it is then (1, 0)."})
    static void closeTellsWhetherItIs() {
        Run x = Lands.rich();
        x.taken("close 2 1", 0);
        x.tells("between 1 2 1", 0);
        x.taken("close 1 2", 1);
        x.tells("between 1 2 1", 1);
        x.taken("close 0 1", 1);
        x.tells("count 3", 2);
    }

    @Says({"Promise 19", "-1 (one alone); -2; -3 there is none."})
    static void closesRefused() {
        Run x = Lands.rich().make("road 0 1 0");
        for (String call : List.of("close 0 0", "close 3 3", "close -1 -1")) x.refused(call, -1);
        for (String call : List.of("close 0 3", "close 3 0", "close -1 0", "close 0 -1", "close 7 8", "close " + LOWEST + " 0", "close 0 " + HIGHEST)) x.refused(call, -2);
        x.refused("close 0 1", -3);
        x.refused("close 1 0", -3);
    }

    @Says({"Promise 20", "A YEAR: how well all TOWNS LIKE what they have together (ahead of it). -3."})
    static void passTellsHowWellAllLike() {
        Run x = Lands.ruled("likes 10 * town + sunday + year;alters 0").make("swap 0 1");
        x.taken("pass", 1 + 10 + 22);
        x.taken("pass", 1 + 10 + 22 + 3);
        Run most = Lands.seven().make("law likes 1000", "force 0");
        most.taken("pass", 693);
        Run none = new Run();
        none.taken("pass", 0);
        none.tells("count 14", 1);
        Run last = Lands.rich().make("terms 0 999");
        last.refused("pass", -3);
        last.refused("pass", -3);
    }

    @Says({"Promise 21", "The latest swap(), round(), close(), pass() (by ORDERS, too; 16 are kept) is undone"})
    static void sixteenAreKept() {
        Run x = Lands.three().make("swap 0 1");
        for (int i = 0; i < 15; i++) x.make("pass");
        x.tells("count 6", 16);
        x.make("close 0 1");
        x.tells("count 6", 16);
        // One that is refused costs none of them.
        x.refused("swap 0 1", -3);
        x.taken("undo", 2);
        for (int i = 0; i < 15; i++) x.taken("undo", 3);
        x.refused("undo", -3);
        x.tells("of 0 0", 1);
        x.tells("count 14", 0);
        Run y = Lands.three();
        y.taken("orders pass times 20;swap 0 with 1;road 0 to 1", 22);
        y.tells("count 6", 16);
        y.taken("undo", 2);
        y.taken("undo", 0);
        for (int i = 0; i < 14; i++) y.taken("undo", 3);
        y.refused("undo", -3);
        y.tells("count 14", 6);
        y.tells("of 0 8", 6);
    }

    @Says({"Promise 21", "16 are kept"})
    static void sixteenAreKeptHoweverManyWere() {
        for (int years : new int[] {1, 15, 16, 17, 18, 33, 34, 35, 51, 240}) {
            Run x = Lands.three();
            // By "?" status() is not asked behind each: those were too many calls.
            for (int i = 0; i < years; i++) x.make("?pass");
            int kept = Math.min(years, 16);
            x.due("count 6", kept);
            for (int i = 1; i <= kept; i++) {
                x.due("undo", 3);
                x.due("count 14", years - i);
                x.due("of 0 8", Math.min(99, years - i));
            }
            x.refused("undo", -3);
            // What is undone makes room again.
            x.make("swap 0 1", "close 0 2");
            x.due("count 6", 2);
            x.taken("undo", 2);
            x.taken("undo", 0);
            x.refused("undo", -3);
        }
    }

    @Says({"Promise 21", "(where SUNDAYS are, BELLS, HAD, which ROADS are CLOSED, YEAR are as they were): 0 .. 3."})
    static void undoneAsItWas() {
        String[] calls = {"swap 0 1", "round 0 1 2", "close 0 2", "pass"};
        for (int kind = 0; kind < 4; kind++) {
            Run x = Lands.ruled("alters bells + 1;likes had").make("pass", calls[kind]);
            x.taken("undo", kind);
            Run.alike(x, Lands.ruled("alters bells + 1;likes had").make("pass"));
        }
        Run all = Lands.ruled("alters bells + 1;likes had").make(calls);
        for (int kind = 3; kind >= 0; kind--) all.taken("undo", kind);
        Run.alike(all, Lands.ruled("alters bells + 1;likes had"));
        Run closed = Lands.three().make("close 0 1", "close 0 1");
        closed.taken("undo", 2);
        closed.tells("between 0 1 1", 1);
        closed.taken("undo", 2);
        closed.tells("between 0 1 1", 0);
        Run years = Lands.three();
        for (int i = 0; i < 5; i++) years.make("orders pass times 20");
        years.tells("of 0 8", 99);
        years.taken("undo", 3);
        years.tells("of 0 8", 99);
        years.taken("undo", 3);
        years.tells("of 0 8", 98);
        years.tells("count 14", 98);
    }

    @Says({"Promise 21", "-3 there is none"})
    static void nothingToUndo() {
        Lands.three().refused("undo", -3);
        Run x = Lands.three().make("swap 0 1", "undo");
        x.refused("undo", -3);
        x.refused("undo", -3);
        x.taken("swap 0 1", 1);
        x.taken("undo", 0);
        Run rich = Lands.rich().make("terms 2 4");
        rich.refused("undo", -3);
        // What was refused, or run in ORDERS that were, can't be undone.
        Run none = Lands.three().make("?swap 0 0", "?close 0 0", "?round 0 0 0", "?orders pass;swap 0 with 0", "orders pass if 1 = 2");
        none.refused("undo", -3);
    }

    @Says({"Promise 21", "(nothing that was ahead of a town(), road(), terms(), row(), back() that was not REFUSED can be undone)"})
    static void nothingAheadOfTheseCanBeUndone() {
        for (String call : List.of("town 4 4", "road 0 1 10", "road 0 1 0", "terms 0 0", "terms 1 1", "terms 2 0", "row 0 1 10", "row 0", "back 0")) {
            Run x = Lands.three().make("image 0", "swap 0 1", "pass", call);
            x.tells("count 6", 0);
            x.refused("undo", -3);
            x.make("pass");
            x.taken("undo", 3);
            x.refused("undo", -3);
        }
    }

    @Says({"Promise 21", "that was not REFUSED can be undone)"})
    static void whatWasRefusedLeavesWhatCanBeUndone() {
        for (String call : List.of("town 10 0", "road 0 0 5", "road 0 5 5", "road 0 1 100", "terms 3 0", "terms 0 1000", "row", "back 1", "back 2")) {
            Run x = Lands.three().make("swap 0 1", "pass", "?" + call);
            x.due("status", call.startsWith("road 0 5") || call.equals("back 1") ? -2 : call.equals("row") ? -6 : -1);
            x.tells("count 6", 2);
            x.taken("undo", 3);
            x.taken("undo", 0);
            x.refused("undo", -3);
        }
        // Others leave it, too.
        Run x = Lands.three().make("swap 0 1", "law likes 5", "force 0", "heard 0 1", "forget", "image 0", "centuries 5 5", "tape pass", "end 0", "orders pass if 1 = 2");
        x.tells("count 6", 1);
        x.taken("undo", 0);
        x.tells("count 13", 0);
        x.tells("count 5", 1);
        Run full = Lands.seven().make("swap 0 1");
        full.refused("town 1 1", -5);
        full.taken("undo", 0);
    }
}
