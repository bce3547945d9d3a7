/** For each promise of the document ordinary inputs, the edges it names, and wrong inputs. */
public final class PromiseTest {
    private static final Checks C = new Checks();

    public static void main(String[] args) {
        newObject();
        towns();
        ofTowns();
        sundays();
        roads();
        betweens();
        termsOf();
        tape();
        rows();
        laws();
        ordersRead();
        ordersRun();
        faults();
        stops();
        forces();
        swaps();
        rounds();
        closes();
        passes();
        undos();
        ringsOf();
        mostLikeds();
        news();
        homes();
        markets();
        bargainsOf();
        envies();
        hearings();
        asks();
        fews();
        compares();
        centuriesOf();
        images();
        counts();
        statuses();
        C.finish();
    }

    private static void due(String call, long got, long want) { C.due(call, got, want); }

    private static void refused(TownSundays x, String call, int got, int want) { C.dueRefused(x, call, got, want); }

    // Promise 1
    private static void newObject() {
        due("the constants: NONE", TownSundays.NONE, -1);
        TownSundays x = new TownSundays();
        int[] counts = {0, 0, 0, 0, 0, 0, 0, 0, 0, 0, 0, 0, 0, -1, 0, 1, 0, -1};
        for (int i = 0; i < counts.length; i++) due("1: count(" + i + ")", x.count(i), counts[i]);
        due("1: count(-1)", x.count(-1), -1);
        due("1: status()", x.status(), 0);
        due("1: fault()", x.fault(), -1);
        due("1: stopped()", x.stopped(), -1);
        due("1: sidings()", x.sidings(), 0);
        due("1: drawn", x.drawn(0, 0), -1);
        due("1: of", x.of(0, 0), -1);
        due("1: pass without towns", x.pass(), 0);
        due("1: year then", x.count(14), 1);
    }

    // Promise 2
    private static void towns() {
        TownSundays x = new TownSundays();
        refused(x, "2: town(-1, 0)", x.town(-1, 0), -1);
        refused(x, "2: town(10, 0)", x.town(10, 0), -1);
        refused(x, "2: town(0, -1)", x.town(0, -1), -1);
        refused(x, "2: town(0, 10)", x.town(0, 10), -1);
        due("2: no town then", x.count(0), 0);
        for (int i = 0; i < 7; i++) refused(x, "2: the town behind", i == 6 ? x.town(9, 9) - 6 : x.town(i, 0) - i, 0);
        refused(x, "2: an eighth", x.town(0, 0), -5);
        refused(x, "2: an eighth that can't be", x.town(10, 0), -1);
        due("2: bells", x.sunday(6, 1), 9);
        due("2: hats", x.sunday(6, 2), 9);
        due("2: where it is", x.sunday(6, 0), 6);
        TownSundays y = Checks.joined(1, 1, 2);
        y.swap(0, 1);
        due("2: a new one has its own", y.town(3, 4) == 2 && y.of(2, 0) == 2 && y.of(0, 0) == 1 ? 1 : 0, 1);
    }

    // Promise 3
    private static void ofTowns() {
        TownSundays x = Checks.towns(3, 5, 1);
        x.road(0, 1, 4);
        x.swap(0, 1);
        x.pass();
        due("3: of(0, 0)", x.of(0, 0), 1);
        due("3: likes by bells", x.of(2, 2), 5);
        due("3: had", x.of(0, 9), 1);
        due("3: never had", x.of(0, 8), 0);
        due("3: is there", x.of(0, 16), 1);
        due("3: could be sent", x.of(0, 15), 1);
        due("3: no road", x.of(0, 17), 0);
        x.close(0, 1);
        due("3: closed", x.of(0, 15), 0);
        for (int s = 3; s < 7; s++) for (int w = 1; w < 22; w += 7) due("3: no such Sunday", x.of(0, w + s), -1);
        due("3: of(0, 22)", x.of(0, 22), -1);
        due("3: of(0, -1)", x.of(0, -1), -1);
        due("3: of(-1, 0)", x.of(-1, 0), -1);
        due("3: of(3, 0)", x.of(3, 0), -1);
        due("3: the lowest number", x.of(0, Integer.MIN_VALUE), -1);
        TownSundays y = Checks.joined(3, 1, 2, 3, 4, 5, 6, 7);
        due("3: seven, likes the last", y.of(0, 7), 7);
        due("3: seven, had the first", y.of(0, 8), 0);
        due("3: seven, had the last", y.of(6, 14), 0);
        due("3: seven, sends the first", y.of(6, 15), 1);
        due("3: seven, is there", y.of(6, 21), 1);
        Checks.rule(y, "bars if town = sunday or miles = 3 and town = 2");
        due("3: barred where it is", y.of(0, 15), 1);
        due("3: barred by miles", y.of(2, 15), 0);
        due("3: not barred", y.of(1, 15), 1);
    }

    // Promise 4
    private static void sundays() {
        TownSundays x = new TownSundays();
        x.town(3, 1);
        x.town(5, 2);
        x.road(0, 1, 9);
        x.swap(0, 1);
        due("4: where", x.sunday(0, 0), 1);
        due("4: bells", x.sunday(0, 1), 3);
        due("4: hats", x.sunday(1, 2), 2);
        due("4: alters without a law", x.sunday(0, 3), 3);
        Checks.rule(x, "alters bells + town + 1 if own = 0; alters 100 if sunday = 1; alters 0 - 5 if sunday = 1 and miles > 0");
        due("4: alters where it is", x.sunday(0, 3), 5);
        due("4: alters to the nearest", x.sunday(1, 3), 9);
        Checks.rule(x, "alters 0 - 1");
        due("4: alters to the nearest below", x.sunday(1, 3), 0);
        Checks.rule(x, "likes 7");
        due("4: no clause alters", x.sunday(1, 3), 5);
        due("4: what 4", x.sunday(0, 4), -1);
        due("4: what -1", x.sunday(0, -1), -1);
        due("4: no such", x.sunday(2, 0), -1);
        due("4: below", x.sunday(-1, 0), -1);
    }

    // Promise 5
    private static void roads() {
        TownSundays x = Checks.towns(1, 2, 3);
        refused(x, "5: one alone", x.road(1, 1, 5), -1);
        refused(x, "5: one alone that is not there", x.road(9, 9, 5), -1);
        refused(x, "5: too many miles", x.road(0, 1, 100), -1);
        refused(x, "5: miles below 0", x.road(0, 1, -1), -1);
        refused(x, "5: miles ahead of towns", x.road(0, 3, 100), -1);
        refused(x, "5: no such town", x.road(0, 3, 1), -2);
        refused(x, "5: no such town below", x.road(-1, 0, 1), -2);
        refused(x, "5: a new one", x.road(0, 1, 99), 0);
        due("5: what miles were", x.road(1, 0, 7), 99);
        x.close(0, 1);
        due("5: closed", x.between(0, 1, 1), 1);
        due("5: told anew", x.road(0, 1, 7), 7);
        due("5: not closed then", x.between(0, 1, 1), 0);
        x.close(0, 1);
        due("5: none then", x.road(0, 1, 0), 7);
        due("5: miles then", x.between(1, 0, 0), 0);
        due("5: none is not closed", x.between(1, 0, 1), 0);
        due("5: roads then", x.count(2), 0);
    }

    // Promise 6
    private static void betweens() {
        TownSundays x = Checks.towns(1, 2, 3);
        x.road(2, 0, 5);
        x.close(0, 2);
        due("6: miles", x.between(0, 2, 0), 5);
        due("6: miles the other way", x.between(2, 0, 0), 5);
        due("6: closed", x.between(2, 0, 1), 1);
        due("6: none", x.between(0, 1, 0), 0);
        due("6: none is not closed", x.between(0, 1, 1), 0);
        due("6: one alone", x.between(1, 1, 0), -1);
        due("6: no such", x.between(0, 3, 0), -1);
        due("6: no such below", x.between(-1, 0, 0), -1);
        due("6: what 2", x.between(0, 2, 2), -1);
        due("6: what -1", x.between(0, 2, -1), -1);
    }

    // Promise 7
    private static void termsOf() {
        TownSundays x = new TownSundays();
        int[] most = {999, 10, 9};
        int[] first = {0, 1, 0};
        for (int i = 0; i < 3; i++) {
            refused(x, "7: too high", x.terms(i, most[i] + 1), -1);
            refused(x, "7: too low", x.terms(i, -1), -1);
            due("7: what it was", x.terms(i, most[i]), first[i]);
            due("7: what it is", x.count(14 + i), most[i]);
            due("7: taken", x.status(), 0);
            due("7: what it was then", x.terms(i, 0), most[i]);
        }
        refused(x, "7: no such term", x.terms(3, 0), -1);
        refused(x, "7: no such term below", x.terms(-1, 0), -1);
    }

    // Promises 8 and 9
    private static void tape() {
        TownSundays x = Checks.towns(1, 2);
        for (int i = 1; i <= 20; i++) due("8: feed", x.feed(-1, 0, 1, Integer.MIN_VALUE, Integer.MAX_VALUE), 20 * i);
        due("8: too many", x.feed(0, 0, 0, 0, 0), -1);
        due("8: as it was", x.count(7), 400);
        due("8: no refusal", x.status() == 0 && x.count(8) == 0 ? 1 : 0, 1);
        due("9: too many", x.end(401), -1);
        due("9: below 0", x.end(-1), -1);
        due("9: as many", x.end(400), 400);
        due("9: end(381)", x.end(381), 381);
        due("8: twenty more don't go", x.feed(0, 0, 0, 0, 0), -1);
        due("9: end(380)", x.end(380), 380);
        due("8: twenty more go", x.feed(0, 0, 0, 0, 0), 400);
        due("9: end(0)", x.end(0), 0);
        due("9: not so many", x.end(1), -1);
        // The highest byte comes first, and bytes above 127 are no negative ones.
        x.feed(0x00010901, 0x00ff0102, 0, 0, 0);
        x.end(9);
        due("8: the order of bytes", x.row(), 1);
        due("8: miles fed", x.between(0, 1, 0), 9);
        due("8: sidings fed", x.sidings(), 2);
    }

    // Promises 10 and 11
    private static void rows() {
        TownSundays x = Checks.towns(1, 2, 3);
        refused(x, "10: empty", x.row(), -6);
        due("11: ahead of any", x.sidings(), 0);
        x.road(0, 1, 5);
        x.close(0, 1);
        Checks.put(x, "\0\1\11\1\2\143\0\2\144\2\2\5\3\0\5\0\2\0\1");
        refused(x, "10: roads told", x.row() - 3, 0);
        due("11: sidings", x.sidings(), 4);
        due("10: the tape", x.count(7), 0);
        due("10: miles", x.between(0, 1, 0), 9);
        due("10: not closed", x.between(0, 1, 1), 0);
        due("10: 99 miles", x.between(1, 2, 0), 99);
        due("10: none", x.between(0, 2, 0), 0);
        refused(x, "10: empty again", x.row(), -6);
        due("11: as it was", x.sidings(), 4);
        Checks.put(x, "\0\1");
        due("10: all sidings", x.row(), 0);
        due("11: one that ends within", x.sidings(), 1);
        Checks.put(x, "\0\2\7");
        x.swap(0, 1);
        due("10: one can be undone", x.count(6), 1);
        x.row();
        due("10: nothing can be undone", x.count(6), 0);
        due("11: none", x.sidings(), 0);
    }

    private static int likes(String law) {
        TownSundays x = new TownSundays();
        x.town(3, 7);
        x.town(4, 2);
        x.road(0, 1, 20);
        x.terms(0, 6);
        x.terms(2, 8);
        x.pass();
        Checks.rule(x, law);
        return x.of(1, 1);
    }

    // Promise 12, and the language of LAWS
    private static void laws() {
        String[] told = {"town", "1", "sunday", "0", "bells", "3", "hats", "7", "own", "0", "had", "0", "miles", "20", "year", "7", "mood", "8",
            "1000", "99", "0 - 1", "0", "99", "99", "100", "99", "2 + 3 * 4", "14", "[2 + 3] * 4", "20", "20 - 3 - 4", "13", "40 / 4 / 2", "5",
            "7 / 2", "3", "[0 - 7] / 2 + 9", "6", "[0 - 7] % 2 + 9", "8", "7 % [0 - 2]", "1", "5/0", "3", "5%0", "3", "1 / [2 - 2] * 0", "3",
            "1000 * 1000 * 1000", "99", "1000 * 1000 * 1000 + 1", "3", "1000 * 1000 * 1000 + 1 - 1", "3", "0 - 1000 * 1000 * 1000 - 1", "3",
            "0 - 1000 * 1000 * 1000", "0", "1000 * 1000 * 1000 * 2 / 1000", "3", "[[[[[[[[5]]]]]]]]", "5", "0005", "5", "001000/100", "10"};
        for (int i = 0; i < told.length; i += 2) {
            due("12: likes " + told[i], likes("likes " + told[i]), Integer.parseInt(told[i + 1]));
        }
        due("12: the last that holds", likes("likes 5;likes 6 if 1 = 1;likes 7 if 1 = 2"), 6);
        due("12: one whose sum is broken does not hold", likes("likes 5;likes 1/0"), 5);
        due("12: one whose if is broken does not hold", likes("likes 5;likes 6 if 1/0 = 1"), 5);
        due("12: not broken", likes("likes 5;likes 6 if not 1/0 = 1"), 5);
        due("12: or asks no more", likes("likes 5;likes 6 if 1 = 1 or 1/0 = 1"), 6);
        due("12: or asks", likes("likes 5;likes 6 if 1 = 2 or 1/0 = 1 or 1 = 1"), 5);
        due("12: and asks no more", likes("likes 5;likes 6 if not (1 = 2 and 1/0 = 1)"), 6);
        due("12: and asks", likes("likes 5;likes 6 if not (1 = 1 and 1/0 = 1)"), 5);
        due("12: and ahead of or", likes("likes 5;likes 6 if 1 = 1 or 1 = 1 and 1 = 2"), 6);
        due("12: brackets", likes("likes 5;likes 6 if (1 = 1 or 1 = 1) and 1 = 2"), 5);
        due("12: not", likes("likes 5;likes 6 if not not 1 < 2"), 6);
        due("12: not binds one alone", likes("likes 5;likes 6 if not 1 = 2 and 1 = 2"), 5);
        due("12: more", likes("likes 5;likes 6 if 2 > 1"), 6);
        due("12: not more", likes("likes 5;likes 6 if 1 > 1 or 1 < 1"), 5);
        due("12: no likes", likes("bars"), 3);
        due("12: tokens without blanks", likes("likes5if1=1and1<2;bars if1=2"), 5);
        due("12: blanks", likes("   likes   5   "), 5);
        TownSundays x = new TownSundays();
        for (int i = 0; i < 6; i++) due("12: number", Checks.law(x, "likes " + i), i);
        due("12: laws", x.count(5), 6);
        Checks.put(x, "nonsense");
        int faultAhead = x.fault();
        refused(x, "12: a seventh", x.law(), -5);
        due("12: ahead of reading it", x.fault(), faultAhead);
        due("12: the tape is empty", x.count(7), 0);
        TownSundays y = Checks.joined(1, 1, 2);
        y.swap(0, 1);
        refused(y, "12: none fed", y.law(), -6);
        due("12: none fed, fault", y.fault(), 0);
        refused(y, "12: blanks alone", Checks.law(y, "   "), -6);
        due("12: blanks alone, fault", y.fault(), 3);
        due("12: wrong, the tape is empty", y.count(7), 0);
        Checks.law(y, "likes 1");
        due("12: the tape is empty behind it", y.count(7), 0);
        due("12: not in force", y.of(0, 1), 1);
        due("12: can be undone yet", y.count(6), 1);
    }

    private static void fault(boolean orders, String text, int place) {
        TownSundays x = Checks.towns(1, 2, 3);
        int got = orders ? Checks.orders(x, text) : Checks.law(x, text);
        C.ok("14: " + text + " is " + (place < 0 ? "taken" : "refused") + ", not " + got, place < 0 ? got != -6 : got == -6);
        due("14: fault of " + text, x.fault(), place);
    }

    // Promise 14, and FAULTS of both languages
    private static void faults() {
        fault(false, "likes", 5);
        fault(false, "likes  ", 7);
        fault(false, "like 5", 0);
        fault(false, "likess 5", 0);
        fault(false, "zlikes 5", 0);
        fault(false, "likes 5 ifz 1 = 1", 8);
        fault(false, "likes 5 ifa 1 = 1", 8);
        fault(false, "likes 5 if`1 = 1", 10);
        fault(false, "likes 5 if{1 = 1", 10);
        fault(false, "likes 5/1", -1);
        fault(false, "likes 5:1", 7);
        fault(false, "likes 90", -1);
        fault(false, "Likes 5", 0);
        fault(false, "swap 0 with 1", 0);
        fault(false, "likes 5 6", 8);
        fault(false, "likes 1001", 6);
        fault(false, "likes 99999999999999999999", 6);
        fault(false, "likes 1000", -1);
        fault(false, "likes 5;", 8);
        fault(false, ";likes 5", 0);
        fault(false, "likes done", 6);
        fault(false, "likes has 1", 6);
        fault(false, "likes bells 1", 12);
        fault(false, "likes -5", 6);
        fault(false, "likes [5", 8);
        fault(false, "likes [5)", 8);
        fault(false, "likes (5)", 6);
        fault(false, "likes 5 times 2", 8);
        fault(false, "likes 5 if", 10);
        fault(false, "likes 5 if 1", 12);
        fault(false, "likes 5 if (1 = 1", 17);
        fault(false, "likes 5 if 1 = 1 = 1", 17);
        fault(false, "likes 5 if [1 = 1]", 14);
        fault(false, "likes 5 if not", 14);
        fault(false, "likes 5 if 1 = 1 or", 19);
        fault(false, "likes 5 if 1 = 1 and and", 21);
        fault(false, "likes 5 \0", 8);
        fault(false, "likes 5 \u00ff", 8);
        fault(false, "likes 5\t", 7);
        fault(false, "bars", -1);
        fault(false, "bars 3", 5);
        fault(false, "bars if own", 11);
        fault(false, "alters 5 if ((1 = 1) or not (1 < 2))", -1);
        fault(false, "likes " + Checks.times("[", 8) + "1" + Checks.times("]", 8), -1);
        fault(false, "likes " + Checks.times("[", 9) + "1" + Checks.times("]", 9), 14);
        fault(false, "bars if " + Checks.times("(", 8) + "1 = 1" + Checks.times(")", 8), -1);
        fault(false, "bars if " + Checks.times("(", 9) + "1 = 1" + Checks.times(")", 9), 16);
        fault(false, "bars if ((((((([1] = 1)))))))", -1);
        fault(false, "bars if (((((((([1] = 1))))))))", 16);
        fault(false, "likes [1] + [2] + [3] + [4] + [5] + [6] + [7] + [8] + [9] + [10]", -1);
        fault(false, "likes 1" + Checks.times("+1", 49), -1);
        fault(false, "likes 1" + Checks.times("+1", 50), 106);
        fault(false, "likes 1" + Checks.times("+1", 39) + " if 1 = 1 and 1 = 1 and 1 = 1 and 1 = 1 and 1 = 1", -1);
        fault(false, "likes 1" + Checks.times("+1", 40) + " if 1 = 1 and 1 = 1 and 1 = 1 and 1 = 1 and own = 1", 6 + 1 + 80 + 4 + 40 + 6);
        fault(false, "likes 1" + Checks.times("+1", 24) + ";likes 1" + Checks.times("+1", 25), 6 + 49 + 1 + 6 + 50);
        fault(false, Checks.times("bars;", 11) + "bars", -1);
        fault(false, Checks.times("bars;", 12) + "bars", 60);
        fault(false, Checks.times("bars;", 12) + "  x", 62);
        fault(false, Checks.times("bars;", 12), 60);
        fault(false, "bars if " + Checks.times("not ", 90) + "1 = 1", -1);
        fault(true, "pass", -1);
        fault(true, "pass times 1", -1);
        fault(true, "pass times 20", -1);
        fault(true, "pass times 21", 11);
        fault(true, "pass times 0", 11);
        fault(true, "pass times", 10);
        fault(true, "pass times x", 11);
        fault(true, "pass if 1 = 1 times 2", 14);
        fault(true, "pass times 2 if 1 = 2", -1);
        fault(true, "pass pass", 5);
        fault(true, "pass 1", 5);
        fault(true, "likes 1", 0);
        fault(true, "swap 0", 6);
        fault(true, "swap 0 to 1", 7);
        fault(true, "swap 0 with", 11);
        fault(true, "round 0 to 1 with 2", 13);
        fault(true, "round 0 to 1", 12);
        fault(true, "road 0 with 1", 7);
        fault(true, "pass if has 7 = 1", 12);
        fault(true, "pass if has = 1", 12);
        fault(true, "pass if has 6 = 7", -1);
        fault(true, "pass if bells 006 = 7", -1);
        fault(true, "pass if bells = 7", 14);
        fault(true, "pass if town = 7", 8);
        fault(true, "pass if done < 0 or latest = 0 or home > 5 or year < 0", -1);
        fault(true, "pass if 0 = 1" + Checks.times("+has 1", 48), -1);
        fault(true, "pass times 2 if 0 = 1" + Checks.times("+has 1", 49), 21 + 6 * 48 + 1);
        fault(true, Checks.times("pass;", 12) + "pass", 60);
        TownSundays x = Checks.towns(1, 2);
        Checks.law(x, "likes");
        due("14: of a law", x.fault(), 5);
        Checks.orders(x, "swap 1 with 1");
        due("14: one that can't be has no fault", x.fault(), -1);
        Checks.orders(x, "swap x");
        due("14: of orders", x.fault(), 5);
        Checks.law(x, "likes 5");
        due("14: none", x.fault(), -1);
    }

    // Promise 13, reading
    private static void ordersRead() {
        TownSundays x = Checks.joined(5, 1, 2, 3);
        refused(x, "13: none fed", x.orders(), -6);
        due("13: fault", x.fault(), 0);
        refused(x, "13: blanks alone", Checks.orders(x, "  "), -6);
        due("13: fault at the end", x.fault(), 2);
        refused(x, "13: a fault", Checks.orders(x, "pass;nonsense"), -6);
        due("13: nothing is run", x.count(14), 0);
        due("13: the tape is empty", x.count(7), 0);
        due("13: run", Checks.orders(x, "pass;swap 0 with 1"), 2);
        due("13: the tape is empty then", x.count(7), 0);
        refused(x, "13: can't be", Checks.orders(x, "pass;swap 0 with 0"), -3);
        due("13: the tape is empty then, too", x.count(7), 0);
    }

    private static void so(TownSundays x, String test, boolean is) {
        x.image(0);
        due("13: " + test, Checks.orders(x, "pass if " + test), is ? 1 : 0);
        x.back(0);
    }

    // Promise 13, running
    private static void ordersRun() {
        TownSundays x = Checks.joined(5, 4, 2, 3);
        x.road(0, 2, 0);
        x.swap(0, 1);
        x.terms(0, 7);
        so(x, "year = 7", true);
        so(x, "home = 1", true);
        so(x, "has 0 = 1", true);
        so(x, "has 3 = 0 - 1", true);
        so(x, "bells 0 = 4", true);
        so(x, "bells 3 = 0 - 1", true);
        so(x, "done = 0 and latest = 0 - 1", true);
        so(x, "1/0 = 1", false);
        so(x, "1 = 2", false);
        due("13: times", Checks.orders(x, "pass times 20"), 20);
        due("13: year", x.count(14), 27);
        due("13: done tells", Checks.orders(x, "pass times 9 if done < 4"), 4);
        due("13: latest tells", Checks.orders(x, "pass;swap 0 with 1 if latest = 9;swap 0 with 1 if latest = 8"), 2);
        due("13: latest tells of this text", Checks.orders(x, "pass if latest > 0 - 1"), 0);
        due("13: each time it is asked", Checks.orders(x, "swap 0 with 1 times 5 if has 0 = 0;swap 0 with 1 if has 0 = 1"), 2);
        due("13: sums", Checks.orders(x, "swap 7 % 2 with [has 0 + 2] * 1 if year > 0"), 1);
        due("13: round", Checks.orders(x, "road 1 to 2 times 2;swap 1 with 2"), 3);
        x.road(0, 2, 9);
        due("13: where they are", x.of(0, 0) * 100 + x.of(1, 0) * 10 + x.of(2, 0), 12);
        due("13: round goes", Checks.orders(x, "round 0 to 1 to 2"), 1);
        due("13: where they went", x.of(0, 0) * 100 + x.of(1, 0) * 10 + x.of(2, 0), 201);
        String[] cannot = {"swap 0 with 0", "swap 0 with 3", "swap 0-1 with 1", "swap 1/0 with 1", "swap 0 with 1/0", "round 0 to 1 to 1",
            "round 0 to 1 to 1000*1000", "round 0 to 1 to 1%0", "road 0 to 0", "road 0 to 7", "road 0 to 1000*1000*1000*1000", "pass times 20;pass times 20 if year < 1000"};
        x.terms(0, 970);
        x.swap(0, 1);
        for (String c : cannot) {
            refused(x, "13: " + c, Checks.orders(x, "pass;road 0 to 1;swap 1 with 2;" + c), -3);
            due("13: year behind " + c, x.count(14), 970);
            due("13: closed behind " + c, x.count(3), 0);
            due("13: has behind " + c, x.of(1, 0), 2);
            due("13: undone behind " + c, x.count(6), 1);
        }
        due("13: refused calls", x.count(10), cannot.length);
        due("13: no refusals within", x.count(8) + x.count(9), 0);
        due("13: undo", x.undo(), 0);
        TownSundays y = Checks.joined(5, 4, 2, 3);
        for (int i = 0; i < 16; i++) y.close(0, 1);
        refused(y, "13: many, then one that can't be", Checks.orders(y, "pass times 20;swap 0 with 0"), -3);
        for (int i = 0; i < 16; i++) due("13: all can be undone yet", y.undo(), 2);
        due("13: of many", Checks.orders(y, "pass times 20"), 20);
        for (int i = 0; i < 16; i++) due("13: sixteen are kept", y.undo(), 3);
        due("13: no more", y.undo(), -3);
        due("13: four passed", y.count(14), 4);
    }

    // Promise 15
    private static void stops() {
        TownSundays x = Checks.joined(5, 4, 2, 3);
        Checks.orders(x, "pass;pass;swap 0 with 0;pass");
        due("15: the third", x.stopped(), 2);
        x.swap(0, 1);
        Checks.law(x, "likes");
        due("15: others leave it", x.stopped(), 2);
        Checks.orders(x, "pass");
        due("15: done", x.stopped(), -1);
        Checks.orders(x, "swap 0 with 0");
        due("15: the first", x.stopped(), 0);
        Checks.orders(x, "swap");
        due("15: read in vain", x.stopped(), -1);
    }

    // Promise 16
    private static void forces() {
        TownSundays x = Checks.joined(5, 4, 2, 3);
        x.swap(0, 1);
        refused(x, "16: no such", x.force(0), -2);
        refused(x, "16: below", x.force(-2), -2);
        Checks.law(x, "likes 5");
        Checks.law(x, "likes 6");
        refused(x, "16: beyond", x.force(2), -2);
        due("16: none was", x.force(1), -1);
        due("16: status", x.status(), 0);
        due("16: is", x.count(13), 1);
        due("16: likes", x.of(0, 1), 6);
        due("16: which was", x.force(0), 1);
        due("16: likes by the other", x.of(0, 1), 5);
        due("16: none", x.force(-1), 0);
        due("16: by bells", x.of(0, 1), 4);
        due("16: is none", x.count(13), -1);
        due("16: can be undone", x.count(6), 1);
    }

    // Promise 17
    private static void swaps() {
        TownSundays x = Checks.towns(4, 2, 3);
        x.road(0, 1, 5);
        refused(x, "17: one alone", x.swap(1, 1), -1);
        refused(x, "17: one alone that is not there", x.swap(8, 8), -1);
        refused(x, "17: no such", x.swap(0, 3), -2);
        refused(x, "17: no such below", x.swap(-1, 0), -2);
        refused(x, "17: no road", x.swap(0, 2), -3);
        refused(x, "17: swap", x.swap(0, 1) - 1, 0);
        due("17: the other has", x.of(1, 0), 0);
        due("17: back again", x.swap(1, 0), 1);
        x.close(0, 1);
        refused(x, "17: closed", x.swap(0, 1), -3);
        x.close(0, 1);
        Checks.rule(x, "bars if sunday = 1 and town = 0 and miles = 5 and bells = 2");
        refused(x, "17: barred one way", x.swap(0, 1), -3);
        refused(x, "17: barred the other way", x.swap(1, 0), -3);
        due("17: as it was", x.of(0, 0), 0);
        Checks.rule(x, "bars if sunday = town");
        due("17: not barred", x.swap(0, 1), 1);
        refused(x, "17: barred from home", x.swap(0, 1), -3);
        Checks.rule(x, "bars;bars if 1 = 2");
        refused(x, "17: any that holds bars", x.swap(0, 1), -3);
        Checks.rule(x, "bars if 1/0 = 1");
        due("17: broken bars nothing", x.swap(0, 1), 0);
    }

    // Promise 18
    private static void rounds() {
        TownSundays x = Checks.towns(4, 2, 3, 5);
        x.road(0, 1, 5);
        x.road(1, 2, 5);
        refused(x, "18: first two", x.round(1, 1, 2), -1);
        refused(x, "18: last two", x.round(1, 2, 2), -1);
        refused(x, "18: outer two", x.round(5, 2, 5), -1);
        refused(x, "18: first", x.round(4, 1, 2), -2);
        refused(x, "18: second", x.round(0, 4, 2), -2);
        refused(x, "18: third", x.round(0, 1, -1), -2);
        refused(x, "18: a road wants", x.round(0, 1, 2), -3);
        x.road(0, 2, 5);
        refused(x, "18: round", x.round(0, 1, 2) - 2, 0);
        due("18: where", x.of(0, 0) * 100 + x.of(1, 0) * 10 + x.of(2, 0), 201);
        x.undo();
        refused(x, "18: the lowest comes to the first", x.round(1, 2, 0), 0);
        x.undo();
        Checks.rule(x, "bars if sunday = 1 and town = 0");
        due("18: not barred this way", x.round(0, 1, 2), 2);
        x.undo();
        refused(x, "18: barred that way", x.round(0, 2, 1), -3);
        due("18: as it was", x.count(1), 4);
        for (int i = 0; i < 3; i++) {
            x.close(i, (i + 1) % 3);
            refused(x, "18: closed", x.round(0, 1, 2), -3);
            x.close(i, (i + 1) % 3);
        }
    }

    // Promise 19
    private static void closes() {
        TownSundays x = Checks.towns(4, 2, 3);
        x.road(0, 1, 5);
        refused(x, "19: one alone", x.close(7, 7), -1);
        refused(x, "19: no such", x.close(0, 3), -2);
        refused(x, "19: none", x.close(0, 2), -3);
        refused(x, "19: closed", x.close(1, 0) - 1, 0);
        due("19: miles are the same", x.between(0, 1, 0), 5);
        due("19: roads", x.count(2), 1);
        due("19: closed ones", x.count(3), 1);
        due("19: no more", x.close(0, 1), 0);
        due("19: closed ones then", x.count(3), 0);
        Checks.rule(x, "likes miles");
        x.close(0, 1);
        due("19: a law tells miles of a closed one", x.of(0, 2), 5);
    }

    // Promise 20
    private static void passes() {
        TownSundays x = Checks.joined(5, 4, 2, 9);
        Checks.rule(x, "likes bells + had * 10 + year;alters bells + 1 if year < 1;alters bells * had;bars if had > 0");
        refused(x, "20: together", x.pass() - 15, 0);
        due("20: year", x.count(14), 1);
        // Asked as it was ahead: HAD was 0 then, so that all BELLS are 0 now.
        due("20: bells", x.sunday(0, 1) + x.sunday(1, 1) + x.sunday(2, 1), 0);
        due("20: had", x.of(0, 8) + x.of(1, 9) + x.of(2, 10), 3);
        due("20: together then", x.pass(), 33);
        TownSundays y = Checks.towns(1, 2);
        y.road(0, 1, 3);
        for (int i = 0; i < 100; i++) y.pass();
        due("20: 99 at most", y.of(0, 8), 99);
        due("20: others", y.of(0, 9), 0);
        y.terms(0, 998);
        due("20: 998", y.pass(), 3);
        refused(y, "20: 999", y.pass(), -3);
        due("20: year is as it was", y.count(14), 999);
        TownSundays z = Checks.joined(5, 4, 2, 9);
        Checks.rule(z, "alters year + miles + 3");
        z.swap(0, 2);
        due("20: told", z.pass(), 15);
        due("20: altered", z.sunday(0, 1) * 100 + z.sunday(1, 1) * 10 + z.sunday(2, 1), 333);
        due("20: had by where they are", z.of(0, 10) * 10 + z.of(0, 8), 10);
    }

    // Promise 21
    private static void undos() {
        TownSundays x = Checks.joined(5, 4, 2, 9, 1);
        refused(x, "21: none", x.undo(), -3);
        Checks.rule(x, "alters bells + 1");
        x.swap(0, 1);
        x.round(1, 2, 3);
        x.close(0, 3);
        x.pass();
        due("21: can be", x.count(6), 4);
        refused(x, "21: the year", x.undo() - 3, 0);
        due("21: year", x.count(14), 0);
        due("21: bells", x.sunday(2, 1) * 10 + x.sunday(0, 1), 94);
        due("21: had", x.of(0, 9), 0);
        due("21: closed yet", x.count(3), 1);
        due("21: the road", x.undo(), 2);
        due("21: closed no more", x.count(3) + x.between(3, 0, 1), 0);
        due("21: round", x.undo(), 1);
        due("21: where", x.of(1, 0) * 10 + x.sunday(0, 0), 1);
        due("21: swap", x.undo(), 0);
        due("21: home", x.count(1), 4);
        refused(x, "21: no more", x.undo(), -3);
        for (int i = 0; i < 20; i++) x.swap(0, 1);
        due("21: sixteen", x.count(6), 16);
        x.swap(0, 0);
        due("21: sixteen behind one that was refused", x.count(6), 16);
        for (int i = 0; i < 16; i++) due("21: swapped back", x.undo(), 0);
        refused(x, "21: the seventeenth", x.undo(), -3);
        due("21: as ahead of them", x.of(0, 0), 0);
        TownSundays y = Checks.towns(1, 2);
        for (int i = 0; i < 18; i++) y.pass();
        y.swap(0, 1);
        for (int i = 0; i < 16; i++) due("21: a year", y.undo(), 3);
        due("21: one that was refused costs none of them", y.count(14) * 10 + y.of(0, 8), 22);
        int[] kept = {x.count(6), 0, 0};
        x.swap(0, 1);
        x.heard(0, 1);
        x.forget();
        x.force(-1);
        Checks.law(x, "likes 1");
        x.image(0);
        x.centuries(1, 5);
        x.terms(5, 5);
        x.road(0, 0, 0);
        x.back(1);
        x.row();
        x.town(0, 99);
        due("21: these leave it", x.count(6), kept[0] + 1);
        due("21: so it is undone", x.undo(), 0);
        x.swap(0, 1);
        x.town(0, 0);
        due("21: not ahead of a town", x.undo(), -3);
        x.swap(0, 1);
        x.road(2, 3, 5);
        due("21: not ahead of a road", x.undo(), -3);
        x.swap(0, 1);
        x.terms(2, 0);
        due("21: not ahead of terms", x.undo(), -3);
        x.swap(0, 1);
        Checks.put(x, "x");
        x.row();
        due("21: not ahead of a row", x.undo(), -3);
        x.swap(0, 1);
        x.back(0);
        due("21: not ahead of going back", x.undo(), -3);
        due("21: where it was kept", x.of(0, 0), 1);
    }

    private static TownSundays ringed() {
        TownSundays x = Checks.joined(5, 1, 2, 3, 4, 5, 6, 7);
        x.round(0, 1, 2);
        x.swap(3, 4);
        return x;
    }

    // Promises 22 and 23
    private static void ringsOf() {
        TownSundays x = ringed();
        due("22: rings", x.rings(-1), 4);
        due("22: three", x.rings(1), 3);
        due("22: two", x.rings(4), 2);
        due("22: one", x.rings(6), 1);
        due("22: no such", x.rings(7), -1);
        due("22: below", x.rings(-2), -1);
        due("23: repeated", x.repeated(), 6);
        x.swap(5, 3);
        due("23: three and three", x.repeated(), 3);
        x.swap(0, 3);
        due("22: one of six", x.rings(0), 6);
        due("23: six", x.repeated(), 6);
        x.swap(6, 0);
        due("22: one of seven", x.rings(-1) * 10 + x.rings(3), 17);
        due("23: seven", x.repeated(), 7);
        TownSundays y = Checks.joined(5, 1, 2, 3, 4, 5, 6, 7);
        y.round(0, 1, 2);
        y.round(3, 4, 5);
        y.swap(5, 6);
        due("23: three and four", y.repeated(), 12);
        due("23: all home", Checks.towns(1, 2, 3).repeated(), 1);
        due("23: no towns", new TownSundays().repeated(), 1);
        due("22: no towns", new TownSundays().rings(-1), 0);
        due("22: no town 0", new TownSundays().rings(0), -1);
    }

    // Promise 24
    private static void mostLikeds() {
        TownSundays x = Checks.joined(5, 1, 2, 3);
        Checks.rule(x, "likes 10 if sunday = [town + 1] % 3;likes 40 if town = 2 and sunday = 2 and year = 1;bars if town = 1 and sunday = 2 and mood = 1");
        due("24: how much", x.mostLiked(-1), 30);
        for (int t = 0; t < 3; t++) due("24: the Sunday", x.mostLiked(t), (t + 1) % 3);
        due("24: no such", x.mostLiked(3), -1);
        due("24: below", x.mostLiked(-2), -1);
        x.terms(0, 1);
        due("24: one that stays", x.mostLiked(-1), 51);
        due("24: and the rest", x.mostLiked(0) * 100 + x.mostLiked(1) * 10 + x.mostLiked(2), 102);
        x.terms(0, 0);
        x.terms(2, 1);
        due("24: barred", x.mostLiked(-1), 15);
        due("24: what is left", x.mostLiked(0) * 100 + x.mostLiked(1) * 10 + x.mostLiked(2), 210);
        Checks.rule(x, "likes 7");
        due("24: the first row of alike ones", x.mostLiked(0) * 100 + x.mostLiked(1) * 10 + x.mostLiked(2), 12);
        x.round(0, 1, 2);
        due("24: that stays or not", x.mostLiked(0) * 100 + x.mostLiked(1) * 10 + x.mostLiked(2), 12);
        due("24: no towns", new TownSundays().mostLiked(-1), 0);
        TownSundays y = Checks.towns(1, 2, 3);
        y.road(0, 1, 1);
        Checks.rule(y, "likes 9 if sunday = 1 and town = 0;likes 50 if sunday = 0 and town = 2;bars if sunday = town;likes miles if sunday = 0 and town = 1");
        due("24: by roads alone", y.mostLiked(-1), 13);
        y.close(0, 1);
        due("24: by none", y.mostLiked(-1), 6);
        due("24: all stay, barred or not", y.mostLiked(0), 0);
    }

    // Promises 25 and 26
    private static void news() {
        TownSundays x = Checks.joined(5, 1, 2, 3);
        due("26: all", x.newOnes(), 6);
        due("25: all stay", x.anew(-1), 0);
        due("25: the first stays", x.anew(0), 0);
        x.pass();
        due("26: no one stays", x.newOnes(), 2);
        due("25: miles", x.anew(-1), 15);
        due("25: the first row", x.anew(0) * 100 + x.anew(1) * 10 + x.anew(2), 120);
        x.road(0, 1, 50);
        x.road(1, 2, 1);
        due("25: alike both ways", x.anew(-1), 56);
        x.round(0, 1, 2);
        x.pass();
        due("26: one is left", x.newOnes(), 1);
        due("25: it", x.anew(0) * 100 + x.anew(1) * 10 + x.anew(2), 120);
        x.round(0, 1, 2);
        due("25: one that was never had stays", x.anew(-1), 0);
        x.pass();
        due("26: none", x.newOnes(), 0);
        due("25: none", x.anew(-1), -1);
        due("25: none of a town", x.anew(0), -1);
        due("25: no such", Checks.towns(1).anew(1), -1);
        due("25: below", Checks.towns(1).anew(-2), -1);
        due("25: no towns", new TownSundays().anew(-1), 0);
        due("26: no towns", new TownSundays().newOnes(), 1);
        TownSundays y = Checks.towns(1, 2, 3, 4);
        y.road(0, 1, 9);
        y.road(2, 3, 9);
        y.road(0, 2, 4);
        y.road(1, 3, 4);
        y.pass();
        due("26: four in a ring", y.newOnes(), 4);
        due("25: shortest", y.anew(-1), 16);
        due("25: shortest row", y.anew(0) * 1000 + y.anew(1) * 100 + y.anew(2) * 10 + y.anew(3), 2301);
        Checks.rule(y, "bars if miles = 4 and town = 0");
        due("26: barred", y.newOnes(), 2);
        due("25: round about", y.anew(-1), 26);
        due("26: seven", Checks.joined(1, 1, 2, 3, 4, 5, 6, 7).newOnes(), 5040);
    }

    // Promise 27
    private static void homes() {
        TownSundays x = ringed();
        due("27: swaps", x.home(-1), 3);
        due("27: first", x.home(0), 1);
        due("27: second", x.home(1), 9);
        due("27: third", x.home(2), 25);
        due("27: not so many", x.home(3), -1);
        due("27: below", x.home(-2), -1);
        due("27: all home", Checks.towns(1, 2).home(-1), 0);
        due("27: none", Checks.towns(1, 2).home(0), -1);
        due("27: no towns", new TownSundays().home(-1), 0);
        TownSundays y = Checks.towns(1, 2, 3);
        y.road(0, 1, 5);
        y.road(1, 2, 6);
        y.road(0, 2, 7);
        y.swap(0, 2);
        due("27: straight", y.home(-1) * 100 + y.home(0), 102);
        y.close(0, 2);
        due("27: round about", y.home(-1), 3);
        due("27: round about, first", y.home(0) * 10000 + y.home(1) * 100 + y.home(2), 10901);
        Checks.rule(y, "bars if sunday = 1 and town = 0");
        due("27: barred", y.home(-1), 3);
        due("27: barred, first", y.home(0) * 10000 + y.home(1) * 100 + y.home(2), 90109);
        Checks.rule(y, "bars if miles = 6 and town = 2");
        due("27: barred by miles of the road between", y.home(-1), -1);
        due("27: it can't be", y.home(0), -1);
        Checks.rule(y, "bars if miles = 7 and town = 2");
        due("27: not by those of where it is now", y.home(-1), 3);
        y.force(-1);
        y.close(0, 1);
        due("27: closed", y.home(-1), -1);
        TownSundays v = Checks.towns(1, 2, 3);
        v.road(0, 1, 5);
        v.road(0, 2, 5);
        v.swap(0, 1);
        v.swap(0, 2);
        v.swap(0, 1);
        due("27: by the middle", v.home(0) * 10000 + v.home(1) * 100 + v.home(2), 10201);
        Checks.rule(v, "bars if sunday = 0 and town = 1");
        due("27: by the middle, barred one way", v.home(0) * 10000 + v.home(1) * 100 + v.home(2), 20102);
        TownSundays z = Checks.towns(1, 2, 3, 4, 5, 6, 7);
        for (int i = 0; i < 6; i++) z.road(i, i + 1, 1);
        for (int i = 0; i < 7; i++) for (int j = 0; j < 6 - i; j++) z.swap(j, j + 1);
        due("27: the far end", z.of(0, 0) * 10 + z.of(6, 0), 60);
        due("27: one behind the other", z.home(-1), 21);
        due("27: the first", z.home(0), 1);
        due("27: the last", z.home(20), 1);
        due("27: no more", z.home(21), -1);
    }

    // Promise 28
    private static void markets() {
        TownSundays x = Checks.joined(5, 1, 2, 3, 4);
        // 0 wants 1, 1 wants 2, 2 wants 0; 3 wants 0, then what it has.
        Checks.rule(x, "likes 5;likes 50 if sunday = [town + 1] % 3;likes 1 if town = 3;likes 30 if town = 3 and sunday = 0;bars if mood = 1 and town = 1 and sunday = 2");
        due("28: a ring", x.market(0) * 100 + x.market(1) * 10 + x.market(2), 120);
        due("28: the last", x.market(3), 3);
        due("28: no such", x.market(4), -1);
        due("28: below", x.market(-1), -1);
        x.terms(2, 1);
        // 1 can't have 2: of alike ones it asks for the lowest, so 0 and 1 are a ring.
        due("28: barred", x.market(0) * 100 + x.market(1) * 10 + x.market(2), 102);
        Checks.rule(x, "likes 9 - sunday");
        x.swap(0, 3);
        due("28: the most liked goes home first", x.market(3), 0);
        due("28: who has what it likes most keeps it", x.market(0) * 100 + x.market(1) * 10 + x.market(2), 312);
        Checks.rule(x, "likes 7");
        due("28: the lowest of alike ones", x.market(3) * 1000 + x.market(0) * 100 + x.market(1) * 10 + x.market(2), 312);
    }

    // Promise 29
    private static void bargainsOf() {
        TownSundays x = Checks.joined(5, 1, 2, 3, 4);
        due("29: none", x.bargains(-1), 0);
        Checks.rule(x, "likes 9 - own * 9;bars if mood = 1 and sunday = 0 and town = 2");
        due("29: all", x.bargains(-1), 6);
        int[] all = {1, 2, 3, 9, 10, 17};
        for (int i = 0; i < 6; i++) due("29: the one", x.bargains(i), all[i]);
        due("29: no more", x.bargains(6), -1);
        due("29: below", x.bargains(-2), -1);
        x.close(0, 1);
        due("29: closed", x.bargains(-1) * 10 + x.bargains(0), 52);
        x.terms(2, 1);
        due("29: barred one way", x.bargains(-1) * 10 + x.bargains(0), 43);
        Checks.rule(x, "likes 9 if sunday = 1");
        due("29: of one alone", x.bargains(-1), 0);
        Checks.rule(x, "likes 5");
        due("29: alike is not more", x.bargains(-1), 0);
        TownSundays y = Checks.joined(5, 1, 2, 3);
        y.round(0, 1, 2);
        Checks.rule(y, "likes own * 9");
        due("29: by what they have", y.bargains(-1), 0);
        y.swap(0, 1);
        due("29: two that would both be home", y.bargains(-1) * 100 + y.bargains(0), 109);
    }

    // Promise 30
    private static void envies() {
        TownSundays x = Checks.towns(1, 5, 3);
        due("30: more bells", x.envy(0), 6);
        due("30: one", x.envy(2), 2);
        due("30: none", x.envy(1), 0);
        x.road(0, 1, 4);
        x.swap(0, 1);
        due("30: of who has it", x.envy(2), 1);
        due("30: of who has it now", x.envy(1), 5);
        due("30: content", x.envy(0), 0);
        Checks.rule(x, "likes own * 9;bars");
        due("30: by a law", x.envy(0), 2);
        due("30: no such", x.envy(3), -1);
        due("30: below", x.envy(-1), -1);
    }

    // Promises 31 to 33
    private static void hearings() {
        TownSundays x = Checks.towns(1, 5, 3);
        Checks.rule(x, "likes town * 2 + sunday if town > 0");
        refused(x, "31: n below", x.heard(0, -1), -1);
        refused(x, "31: n beyond", x.heard(0, 100), -1);
        refused(x, "31: n ahead of the Sunday", x.heard(9, 100), -1);
        refused(x, "31: no such", x.heard(3, 5), -2);
        refused(x, "31: no such below", x.heard(-1, 5), -2);
        due("33: all", x.canBe(), 7);
        refused(x, "31: how often", x.heard(2, 4) - 1, 0);
        due("33: one", x.canBe(), 2);
        due("31: how often then", x.heard(1, 3), 2);
        due("33: one yet", x.canBe(), 2);
        due("31: 0 is heard, too", x.heard(0, 0), 3);
        due("33: none", x.canBe(), 0);
        due("31: 99", x.heard(0, 99), 4);
        x.heard(0, 1);
        due("31: six", x.heard(0, 1), 6);
        refused(x, "31: seven", x.heard(0, 1), -5);
        refused(x, "31: seven of none", x.heard(5, 1), -2);
        due("31: count", x.count(4), 6);
        due("32: how often there was", x.forget(), 6);
        due("32: none then", x.forget() + x.count(4), 0);
        due("32: no status", x.status(), -2);
        due("33: all again", x.canBe(), 7);
        x.heard(0, 1);
        due("33: without a likes that holds by bells", x.canBe(), 1);
    }

    // Promise 34
    private static void asks() {
        TownSundays x = Checks.towns(1, 5, 3, 4);
        Checks.rule(x, "likes 1;likes town / 2 if sunday = 2;likes town if sunday = 3 and mood = 1");
        due("34: the Sunday", x.ask(0), 2);
        due("34: at most", x.ask(1), 2);
        x.terms(2, 1);
        due("34: all apart", x.ask(0), 3);
        due("34: one is left", x.ask(1), 1);
        due("34: what 2", x.ask(2), -1);
        TownSundays y = Checks.towns(1, 5, 3, 4);
        Checks.rule(y, "likes 1;likes town if sunday = 1");
        due("34: the second", y.ask(0) * 10 + y.ask(1), 11);
        Checks.rule(y, "likes 1;likes town if sunday < 2");
        due("34: the lowest", y.ask(0) * 10 + y.ask(1), 1);
        due("34: what -1", x.ask(-1), -1);
        x.terms(2, 0);
        x.heard(2, 1);
        due("34: of those that can be", x.ask(0) * 10 + x.ask(1), 2);
        x.heard(1, 50);
        due("34: none can be", x.ask(0), -1);
        due("34: none can be, how many", x.ask(1), -1);
        due("34: no towns", new TownSundays().ask(0), -1);
    }

    // Promise 35
    private static void fews() {
        TownSundays x = new TownSundays();
        due("35: no vans", x.few(1, 0), 1000000000000L);
        due("35: k 0", x.few(0, 1), -1);
        due("35: k 21", x.few(21, 1), -1);
        due("35: n -1", x.few(1, -1), -1);
        due("35: n 100", x.few(1, 100), -1);
        due("35: one", x.few(1, 1), 900000000000L);
        due("35: two", x.few(1, 2), 810000000000L);
        due("35: two of two", x.few(2, 2), 990000000000L);
        due("35: all", x.few(20, 2), 1000000000000L);
        long cut = 1000000000000L;
        for (int i = 0; i < 99; i++) cut = cut * 9 / 10;
        due("35: cut", x.few(1, 99), cut);
        x.terms(1, 10);
        due("35: all lost", x.few(1, 1), 0);
        due("35: all three lost", x.few(4, 3) - x.few(3, 3), 1000000000000L);
        x.terms(1, 0);
        due("35: none lost", x.few(1, 99), 1000000000000L);
        x.terms(1, 3);
        long[] p = {1000000000000L, 0, 0};
        for (int i = 0; i < 30; i++) p = new long[] {p[0] * 7 / 10, p[1] * 7 / 10 + p[0] * 3 / 10, p[2] * 7 / 10 + p[1] * 3 / 10};
        due("35: both cut", x.few(3, 30), p[0] + p[1] + p[2]);
    }

    // Promise 36
    private static void compares() {
        TownSundays x = Checks.towns(1, 5, 3);
        Checks.law(x, "likes 20 + town");
        Checks.rule(x, "likes 30 + sunday");
        due("36: by another", x.compare(0, 2, 1), 22);
        due("36: by that in force", x.compare(1, 2, 1), 31);
        due("36: by none", x.compare(-1, 2, 1), 5);
        due("36: no such law", x.compare(2, 2, 1), -1);
        due("36: no such law below", x.compare(-2, 2, 1), -1);
        due("36: no such town", x.compare(0, 3, 1), -1);
        due("36: no such Sunday", x.compare(0, 0, -1), -1);
        due("36: in force yet", x.count(13), 1);
    }

    // Promises 37 and 38
    private static void centuriesOf() {
        TownSundays x = Checks.joined(5, 1, 2, 3);
        refused(x, "37: seed below", x.centuries(-1, 1), -1);
        refused(x, "37: seed beyond", x.centuries(1000001, 1), -1);
        refused(x, "37: n 0", x.centuries(0, 0), -1);
        refused(x, "37: n 61", x.centuries(0, 61), -1);
        due("38: none yet", x.drawn(0, 0), -1);
        TownSundays none = new TownSundays();
        refused(none, "37: no towns", none.centuries(0, 1), -3);
        refused(none, "37: no towns, n", none.centuries(0, 0), -1);
        Checks.rule(x, "alters bells + 1 if bells < 8;alters had if year = 4;bars if sunday = 2 and town = 0 and year < 2");
        TownSundays y = Checks.joined(5, 1, 2, 3);
        Checks.rule(y, "alters bells + 1 if bells < 8;alters had if year = 4;bars if sunday = 2 and town = 0 and year < 2");
        for (int seed : new int[] {0, 1, 77, 123456, 999999, 1000000}) {
            y.image(0);
            long s = seed;
            for (int i = 0; i < 7; i++) {
                int[] d = new int[4];
                for (int k = 0; k < 4; k++) {
                    s = (s * 1103 + 12345) % 1000003;
                    d[k] = (int) (s % (k == 3 ? 4 : 3));
                }
                if (d[3] < 2) y.swap(d[0], d[1]);
                if (d[3] == 2) y.round(d[0], d[1], d[2]);
                y.pass();
            }
            refused(x, "37: home behind them", x.centuries(seed, 7) - y.count(1), 0);
            for (int k = 0; k < 3; k++) {
                due("38: has", x.drawn(k, 0), y.of(k, 0));
                due("38: bells", x.drawn(k, 1), y.sunday(k, 1));
            }
            due("37: on paper", x.count(14) * 100 + x.count(1) * 10 + x.sunday(0, 1), 31);
            y.back(0);
        }
        int has = x.drawn(0, 0) * 10 + x.drawn(2, 0);
        x.centuries(5, 0);
        x.town(1, 1);
        due("38: as it was", x.drawn(0, 0) * 10 + x.drawn(2, 0), has);
        due("38: no such then", x.drawn(3, 0), -1);
        due("38: below", x.drawn(-1, 0), -1);
        due("38: what 2", x.drawn(0, 2), -1);
        due("38: what -1", x.drawn(0, -1), -1);
        x.terms(0, 999);
        due("37: no year is left", x.centuries(4, 60), 4);
        x.terms(0, 950);
        x.centuries(4, 49);
        int behind = x.drawn(0, 0) * 1000 + x.drawn(1, 0) * 100 + x.drawn(2, 0) * 10 + x.drawn(3, 0);
        x.centuries(4, 60);
        due("37: up to 999", x.drawn(0, 0) * 1000 + x.drawn(1, 0) * 100 + x.drawn(2, 0) * 10 + x.drawn(3, 0), behind);
        TownSundays one = Checks.towns(1);
        Checks.rule(one, "alters bells + 1");
        due("37: one town", one.centuries(1, 4), 1);
        due("38: of one town", one.drawn(0, 1), 5);
    }

    // Promises 39 and 40
    private static void images() {
        TownSundays x = Checks.joined(5, 1, 2, 3);
        refused(x, "39: -1", x.image(-1), -1);
        refused(x, "39: 2", x.image(2), -1);
        refused(x, "40: -1", x.back(-1), -1);
        refused(x, "40: 2", x.back(2), -1);
        refused(x, "40: not kept", x.back(0), -2);
        refused(x, "40: not kept, either", x.back(1), -2);
        Checks.rule(x, "likes 5");
        x.swap(0, 1);
        x.pass();
        x.close(0, 2);
        x.heard(0, 1);
        x.terms(2, 4);
        refused(x, "39: kept", x.image(1), 0);
        Checks.law(x, "likes 6");
        x.force(1);
        x.town(9, 9);
        x.road(0, 3, 9);
        x.road(0, 1, 0);
        x.close(0, 2);
        x.round(1, 2, 1);
        x.swap(1, 2);
        x.pass();
        x.heard(1, 3);
        x.terms(1, 9);
        x.terms(2, 5);
        x.image(0);
        Checks.put(x, "abc");
        x.centuries(3, 9);
        int drawn = x.drawn(1, 0);
        x.swap(1, 2);
        refused(x, "40: back", x.back(1), 0);
        int[] counts = {3, 1, 3, 1, 1, 1, 0, 3, 5, 2, 0, 0, 0, 0, 1, 1, 4};
        for (int i = 0; i < counts.length; i++) due("40: count(" + i + ")", x.count(i), counts[i]);
        due("40: has", x.of(0, 0) * 10 + x.of(1, 0), 10);
        due("40: had", x.of(0, 9) * 10 + x.of(1, 10), 10);
        due("40: likes", x.of(0, 1), 5);
        due("40: the latest centuries are left", x.drawn(1, 0), drawn);
        due("40: a town more of these", x.drawn(3, 1), 9);
        due("40: undo", x.undo(), -3);
        due("40: a new law", Checks.law(x, "likes 7"), 1);
        x.back(0);
        due("40: the other one", x.count(0) * 10 + x.count(5), 42);
        due("40: its law", x.of(0, 1), 6);
        x.back(1);
        due("40: images stay", x.count(0) * 10 + x.of(0, 0), 31);
        x.image(0);
        x.back(0);
        due("39: kept anew", x.count(0), 3);
        TownSundays y = new TownSundays();
        y.image(0);
        y.town(3, 4);
        y.town(5, 6);
        y.image(1);
        y.back(0);
        due("40: no towns", y.count(0), 0);
        y.town(1, 2);
        y.back(1);
        due("40: bells and hats", y.sunday(0, 1) * 10 + y.sunday(0, 2), 34);
    }

    // Promise 41
    private static void counts() {
        TownSundays x = Checks.joined(5, 1, 2, 3);
        x.road(0, 2, 0);
        x.swap(0, 1);
        x.close(1, 2);
        x.terms(9, 9);
        x.heard(9, 9);
        x.heard(9, 9);
        x.swap(0, 2);
        x.swap(0, 2);
        x.undo();
        x.undo();
        x.undo();
        Checks.orders(x, "swap 0 with 2");
        x.row();
        x.law();
        x.orders();
        for (int i = 0; i < 6; i++) Checks.law(x, "bars");
        x.law();
        x.law();
        Checks.put(x, "xyz");
        int[] counts = {3, 3, 2, 0, 0, 6, 0, 3, 1, 2, 4, 2, 3, -1, 0, 1, 0};
        for (int i = 0; i < counts.length; i++) due("41: count(" + i + ")", x.count(i), counts[i]);
        due("41: count(17)", x.count(17), -1);
        due("41: count(-1)", x.count(-1), -1);
        due("41: the lowest", x.count(Integer.MIN_VALUE), -1);
        x.image(0);
        x.swap(0, 0);
        x.back(0);
        due("41: images do not keep refusals", x.count(8), 2);
        x.of(9, 9);
        x.feed(0, 0, 0, 0, 0);
        x.end(-1);
        x.few(0, 0);
        due("41: NONE is no refusal", x.count(8), 2);
    }

    // Promise 42
    private static void statuses() {
        TownSundays x = new TownSundays();
        due("42: ahead of any", x.status(), 0);
        x.town(10, 0);
        due("42: refused", x.status(), -1);
        x.of(0, 0);
        x.forget();
        x.feed(0, 0, 0, 0, 0);
        x.end(0);
        x.count(0);
        due("42: others leave it", x.status(), -1);
        x.town(1, 1);
        due("42: taken", x.status(), 0);
        x.undo();
        due("42: undo", x.status(), -3);
        x.image(0);
        due("42: image", x.status(), 0);
        x.force(0);
        due("42: force", x.status(), -2);
        x.centuries(1, 1);
        due("42: centuries", x.status(), 0);
        x.law();
        due("42: law", x.status(), -6);
        x.pass();
        due("42: pass", x.status(), 0);
        x.swap(0, 0);
        due("42: swap", x.status(), -1);
        x.undo();
        due("42: undone", x.status(), 0);
        x.round(0, 1, 2);
        due("42: round", x.status(), -2);
        x.heard(0, 1);
        due("42: heard", x.status(), 0);
        x.close(0, 1);
        due("42: close", x.status(), -2);
        x.back(0);
        due("42: back", x.status(), 0);
        x.road(0, 0, 0);
        due("42: road", x.status(), -1);
        x.terms(0, 0);
        due("42: terms", x.status(), 0);
        x.orders();
        due("42: orders", x.status(), -6);
        Checks.orders(x, "pass");
        due("42: orders run", x.status(), 0);
        x.row();
        due("42: row", x.status(), -6);
        x.force(-1);
        due("42: force, though it answers -1", x.status(), 0);
    }
}
