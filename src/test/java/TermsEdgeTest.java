import java.util.List;
import java.util.Set;

/** The sentences of the Terms I and II that name what is too small, too large, empty, full or refused. */
public final class TermsEdgeTest {
    private static final String MORE = "+1";

    public static void main(String[] args) throws Exception {
        Sentences.run(TermsEdgeTest.class, List.of("I", "II"));
    }

    // ---- I

    @Says({"I", "TOWNS 0 .. 6 (7 at most)"})
    static void sevenTownsAtMost() {
        Run x = new Run();
        for (int t = 0; t < 7; t++) x.taken("town 1 1", t);
        x.refused("town 1 1", -5);
        x.tells("count 0", 7);
        for (String name : List.of("of 7 0", "sunday 7 0", "between 0 7 0", "rings 7", "mostLiked 7", "market 7", "envy 7")) x.none(name);
    }

    @Says({"I", "SUNDAY s is that of TOWN s, where it is at first"})
    static void eachBeginsAtHome() {
        Run x = Lands.seven();
        for (int t = 0; t < 7; t++) {
            x.tells("of " + t + " 0", t);
            x.tells("sunday " + t + " 0", t);
        }
        x.tells("count 1", 7);
        Run y = Lands.three().make("swap 0 1");
        y.taken("town 4 4", 3);
        y.tells("of 3 0", 3);
        y.tells("of 0 0", 1);
        y.tells("count 1", 2);
    }

    @Says({"I", "BELLS 0 .. 9"})
    static void bellsFromNoneToNine() {
        Run x = new Run();
        for (String bells : List.of("-1", "10", "-2147483648", "2147483647")) x.refused("town " + bells + " 4", -1);
        x.taken("town 0 4", 0);
        x.taken("town 9 4", 1);
        x.tells("sunday 0 1", 0);
        x.tells("sunday 1 1", 9);
    }

    @Says({"I", "HATS 0 .. 9"})
    static void hatsFromNoneToNine() {
        Run x = new Run();
        for (String hats : List.of("-1", "10", "-2147483648", "2147483647")) x.refused("town 4 " + hats, -1);
        x.taken("town 4 0", 0);
        x.taken("town 4 9", 1);
        x.tells("sunday 0 2", 0);
        x.tells("sunday 1 2", 9);
    }

    @Says({"I", "A ROAD between two TOWNS, both ways"})
    static void roadsGoBothWays() {
        Run x = new Run("town 1 1", "town 2 2", "road 0 1 7");
        x.tells("between 0 1 0", 7);
        x.tells("between 1 0 0", 7);
        x.tells("of 0 16", 1);
        x.tells("of 1 15", 1);
        x.taken("close 1 0", 1);
        x.tells("between 0 1 1", 1);
        x.tells("of 0 16", 0);
        x.tells("of 1 15", 0);
        x.taken("road 1 0 9", 7);
        x.tells("between 0 1 0", 9);
        x.tells("between 0 1 1", 0);
    }

    @Says({"I", "MILES 1 .. 99, or none (at first)"})
    static void milesOfRoads() {
        Run x = new Run("town 1 1", "town 2 2", "town 3 3");
        x.tells("between 0 1 0", 0);
        x.tells("between 0 1 1", 0);
        x.tells("count 2", 0);
        x.taken("road 0 1 1", 0);
        x.taken("road 1 2 99", 0);
        x.tells("between 0 1 0", 1);
        x.tells("between 1 2 0", 99);
        x.tells("count 2", 2);
        for (String miles : List.of("-1", "100", "-2147483648", "2147483647")) x.refused("road 0 2 " + miles, -1);
        // A new TOWN has no ROAD, either.
        x.taken("town 4 4", 3);
        for (int t = 0; t < 3; t++) x.tells("between 3 " + t + " 0", 0);
    }

    @Says({"I", "how often a TOWN had a SUNDAY for a YEAR, 0 .. 99 (0 at first)"})
    static void hadFromNoneTo99() {
        Run x = Lands.three();
        for (int t = 0; t < 3; t++) for (int s = 0; s < 3; s++) x.tells("of " + t + " " + (8 + s), 0);
        x.make("orders pass times 20;pass times 20;pass times 20;pass times 20;pass times 18");
        x.tells("of 0 8", 98);
        x.taken("pass", 9);
        x.tells("of 0 8", 99);
        x.taken("pass", 9);
        x.tells("of 0 8", 99);
        x.tells("of 0 9", 0);
        x.tells("count 14", 100);
        x.taken("undo", 3);
        x.tells("of 0 8", 99);
        x.taken("undo", 3);
        x.tells("of 0 8", 98);
    }

    private static void term(int what, int first, int most) {
        Run x = Lands.rich();
        Run y = new Run();
        y.tells("count " + (14 + what), first);
        y.taken("terms " + what + " " + most, first);
        y.tells("count " + (14 + what), most);
        y.taken("terms " + what + " 0", most);
        y.tells("count " + (14 + what), 0);
        y.taken("terms " + what + " " + most, 0);
        for (String value : List.of("-1", "" + (most + 1), "-2147483648", "2147483647")) {
            x.refused("terms " + what + " " + value, -1);
            y.refused("terms " + what + " " + value, -1);
        }
    }

    @Says({"I", "0 YEAR 0 .. 999 (0 at first)"})
    static void yearFromNoneTo999() { term(0, 0, 999); }

    @Says({"I", "1 LOSSES 0 .. 10 (1)"})
    static void lossesFromNoneToTen() { term(1, 1, 10); }

    @Says({"I", "2 MOOD 0 .. 9 (0)"})
    static void moodFromNoneToNine() { term(2, 0, 9); }

    @Says({"I", "HEARD, 6 at most"})
    static void sixHeardAtMost() {
        Run x = Lands.three();
        for (int i = 1; i <= 6; i++) x.taken("heard 1 5", i);
        x.refused("heard 1 5", -5);
        x.tells("count 4", 6);
        x.due("forget", 6);
        x.taken("heard 1 5", 1);
    }

    @Says({"I", "Sets are told as bits."})
    static void setsAreBits() {
        Run x = Lands.seven();
        x.tells("canBe", 127);
        x.tells("envy 0", 126);
        x.tells("envy 5", 64);
        x.tells("envy 6", 0);
        x.make("heard 0 50");
        x.tells("canBe", 0);
    }

    @Says({"I", "The first of these in that order."})
    static void numberAheadOfTown() {
        Run x = Lands.rich();
        for (String call : List.of("road 0 9 100", "road 9 0 -1", "road 9 9 5", "heard 9 100", "heard -1 -1", "swap 9 9", "swap -1 -1",
            "round 9 9 0", "round 0 9 9", "round 9 0 9", "close 9 9", "close -5 -5")) x.refused(call, -1);
        x.refused("back 2", -1);
    }

    @Says({"I", "The first of these in that order."})
    static void numberAheadOfWhatStands() {
        Run x = new Run();
        x.refused("centuries 0 0", -1);
        x.refused("centuries 0 61", -1);
        x.refused("centuries -1 1", -1);
        x.refused("centuries 1000001 1", -1);
        Run y = Lands.rich();
        // One alone has no ROAD, either.
        for (String call : List.of("swap 1 1", "close 1 1", "round 1 2 1")) y.refused(call, -1);
    }

    @Says({"I", "The first of these in that order."})
    static void numberAheadOfRoom() {
        Run x = Lands.seven();
        x.refused("town 10 0", -1);
        x.refused("town 0 -1", -1);
        for (int i = 0; i < 6; i++) x.make("heard 1 1");
        x.refused("heard 1 100", -1);
    }

    @Says({"I", "The first of these in that order."})
    static void townAheadOfWhatStands() {
        Run x = Lands.rich();
        for (String call : List.of("swap 1 3", "swap 3 1", "close 3 1", "round 1 2 3", "round 3 1 2", "round 2 -1 1")) x.refused(call, -2);
    }

    @Says({"I", "The first of these in that order."})
    static void townAheadOfRoom() {
        Run x = Lands.three();
        for (int i = 0; i < 6; i++) x.make("heard 1 1");
        x.refused("heard 3 1", -2);
    }

    @Says({"I", "The first of these in that order."})
    static void roomAheadOfText() {
        Run x = Lands.three();
        for (int i = 0; i < 6; i++) x.make("law likes " + i);
        x.make("tape nonsense");
        x.refusedLike("law", -5, List.of("end 0"), Set.of());
        x.refused("law", -5);
    }

    // ---- II, TOKENS and CLAUSES

    @Says({"II", "TEXTS are on a TAPE of at most 400 bytes"})
    static void textsOf400Bytes() {
        String blanks = " ".repeat(393);
        Lands.lawReads(blanks + "likes 5", "likes 5" + blanks);
        Lands.lawFaults(blanks + "likes ^x", blanks + "  likes^", " ".repeat(400) + "^", blanks + "bars  ^7");
        Lands.ordersRead(" ".repeat(396) + "pass", 1);
        Lands.ordersFaults(" ".repeat(396) + "^pas;", " ".repeat(399) + "^p", " ".repeat(400) + "^");
    }

    @Says({"II", "TOKENS: longest rows of letters a .. z"})
    static void rowsOfLetters() {
        Lands.lawFaults("^zlikes 5", "^alikes 5", "^likesz 5", "^likesa 5", "^like 5", "^like s 5", "likes 5 ^ifa 1 = 1", "likes 5 ^ifnot 1 = 1",
            "bars if 1 = 1 ^orr 1 = 1", "bars if 1 = 1 ^an 1 = 1", "bars if ^nots 1 = 1", "likes ^towns", "likes ^tow", "likes^`5", "likes^{5",
            "likes^@5", "likes[^", "^Likes 5", "^LIKES 5", "likes 5 ^If 1 = 1", "bars^A", "bars^Z", "bars if1^f 1 = 1");
        Lands.ordersFaults("^passs", "^pas", "^Pass", "pass^`", "pass^{", "pass ^timess 2");
        Lands.lawReads("likes5", "likes5if1=1", "bars if not1=1or 1=1and 1=1", "likes town+sunday");
    }

    @Says({"II", "longest rows of letters a .. z, of digits"})
    static void rowsOfDigits() {
        Lands.lawFaults("likes 1 ^2", "likes^/5", "likes^:5", "likes 1 ^0", "likes 5 if1^");
        Lands.sum("12", 12);
        Lands.sum("90", 90);
        Lands.sum("09", 9);
        Lands.sum("1 + 2", 3);
        Lands.lawReads("likes 0123", "likes 456", "likes 789");
    }

    @Says({"II", "single other bytes"})
    static void singleOtherBytes() {
        Lands.lawFaults("bars if 1 <^= 2", "bars if 1 =^= 1", "bars;^;bars", "likes 5 ^\0", "likes 5 ^\u0001", "likes 5 ^\u007f", "likes 5 ^\u0080",
            "likes 5 ^\u00e9", "likes 5 ^\u00ff", "^\u00ff\u00ff", "likes^.5", "likes ^-5", "likes 5^,5");
        Lands.lawReads("bars if[1]<[2]", "likes[[1]]+[2]");
        Lands.ordersFaults("pass ^\u00f0", "pass^!", "^;;");
    }

    @Says({"II", "any blanks (32) between"})
    static void blanksBetween() {
        Lands.lawReads("likes 5", "   likes   5   ;   bars   if   1=1   ", "likes5;bars");
        Lands.lawFaults("likes^\t5", "likes 5^\n", "likes 5 ^\r", "^\u001flikes 5", "likes^!5", "likes 5^\u00a0", "^\tlikes 5", "likes 5^\0");
        Lands.ordersRead("   pass   times   2   ", 2);
        Lands.ordersFaults("pass^\t", "pass ^\u000b");
    }

    @Says({"II", "CLAUSE {\";\" CLAUSE}, 12 at most"})
    static void twelveClausesAtMost() {
        Lands.lawReads("bars", "bars;".repeat(11) + "bars", "likes 5;".repeat(11) + "alters 5");
        Lands.ordersRead("pass", 1);
        Lands.ordersRead("pass;".repeat(11) + "pass", 12);
        Lands.lawFaults("^", "^;", "^;bars", "bars;^;bars", "bars;^", "bars;  ^", "bars ^bars", "bars^,bars");
        Lands.ordersFaults("^", "^;", "^;pass", "pass;^;pass", "pass;^", "pass;  ^", "pass ^pass");
    }

    @Says({"II", "(FAULT at the 13th's first TOKEN)"})
    static void faultAtTheThirteenth() {
        Lands.lawFaults("bars;".repeat(12) + "^bars", "bars;".repeat(12) + "  ^likes 5", "bars;".repeat(12) + "^", "bars;".repeat(12) + "  ^",
            "bars;".repeat(12) + "^;", "bars;".repeat(12) + "^x", "bars;".repeat(12) + "^bars;x", "bars;".repeat(11) + "bars ^x;bars");
        Lands.ordersFaults("pass;".repeat(12) + "^pass", "pass;".repeat(12) + " ^pass times 0", "pass;".repeat(12) + "^");
    }

    // ---- II, TESTS and SUMS

    @Says({"II", "TEST: BOTH {\"or\" BOTH}. BOTH: PLAIN {\"and\" PLAIN}."})
    static void andIsCloserThanOr() {
        Lands.so("1 = 1 or 1 = 1 and 1 = 2", true);
        Lands.so("1 = 2 and 1 = 2 or 1 = 1", true);
        Lands.so("(1 = 1 or 1 = 1) and 1 = 2", false);
        Lands.so("1 = 2 or 1 = 2 or 1 = 1", true);
        Lands.so("1 = 2 or 1 = 2 or 1 = 2", false);
        Lands.so("1 = 1 and 1 = 1 and 1 = 1", true);
        Lands.so("1 = 1 and 1 = 1 and 1 = 2", false);
        Lands.so("1 = 2 and 1 = 1 or 1 = 1 and 1 = 1", true);
        Lands.lawFaults("bars if^", "bars if 1 = 1 or^", "bars if 1 = 1 and^", "bars if ^or 1 = 1", "bars if ^and 1 = 1",
            "bars if 1 = 1 or ^or 1 = 1", "bars if 1 = 1 or ^and 1 = 1", "bars if 1 = 1 and ^; bars");
        Lands.ordersFaults("pass if^", "pass if 1 = 1 or^", "pass if 1 = 1 and ^or 1 = 1");
    }

    @Says({"II", "PLAIN: \"not\" PLAIN | \"(\" TEST \")\""})
    static void notAndBrackets() {
        Lands.so("not 1 = 1", false);
        Lands.so("not not 1 = 1", true);
        Lands.so("not not not 1 = 1", false);
        Lands.so("not 1 = 2 and 1 = 2", false);
        Lands.so("not (1 = 2 and 1 = 2)", true);
        Lands.so("not 1 = 1 or 1 = 1", true);
        Lands.so("not (not (1 = 1))", true);
        Lands.lawReads("bars if " + "not ".repeat(90) + "1 = 1");
        Lands.lawFaults("bars if not^", "bars if 1 = 1 ^not 1 = 1", "bars if not ^)", "bars if (^", "bars if (^)", "bars if (1 = 1^", "bars if (1 = 1^]",
            "bars if 1 = 1^)", "bars if (1 = 1)^)", "bars if (1^) = 1", "bars if (1 = 1) ^= 1", "bars if (1 = 1) ^(1 = 1)", "likes ^not 1", "likes ^(1 = 1)");
        Lands.ordersFaults("pass if not^", "pass if (1 = 1^", "pass if (1^) = 1");
    }

    @Says({"II", "SUM (\"<\" | \">\" | \"=\") SUM."})
    static void lessMoreAlike() {
        Lands.so("0 < 1", true);
        Lands.so("1 < 1", false);
        Lands.so("2 < 1", false);
        Lands.so("1 > 0", true);
        Lands.so("1 > 1", false);
        Lands.so("1 > 2", false);
        Lands.so("1 = 1", true);
        Lands.so("1 = 0", false);
        Lands.so("0 - 1 < 0", true);
        Lands.so("0 > 0 - 1", true);
        Lands.lawFaults("bars if 1^", "bars if 1 ^1", "bars if 1 =^", "bars if 1 <^", "bars if 1 = 1 ^= 1", "bars if 1 = 1 ^< 1", "bars if 1 <^> 1",
            "bars if ^= 1", "bars if ^> 1", "bars if [1 ^= 1]", "bars if 1 ^and 1 = 1", "likes 5 ^< 1", "likes 5 ^= 5");
        Lands.ordersFaults("pass if 1^", "pass if 1 =^", "pass if 1 = 1 ^> 1", "swap 0 ^= 0 with 1");
    }

    @Says({"II", "SUM: TERM {(\"+\" | \"-\") TERM}."})
    static void sumsFromTheLeft() {
        Lands.sum("20 - 3 - 4", 13);
        Lands.sum("20 - 3 + 4", 21);
        Lands.sum("20 - [3 + 4]", 13);
        Lands.sum("3 - 4", -1);
        Lands.sum("0 - 0", 0);
        Lands.lawFaults("likes ^-5", "likes ^+5", "likes 5 +^", "likes 5 -^", "likes 5 + ^- 5", "likes 5 - ^- 5", "bars if ^-1 = 1", "bars if 1 = ^-1");
        Lands.ordersFaults("swap ^-1 with 0", "swap 0 with ^-1", "swap 0 + ^with 1");
    }

    @Says({"II", "TERM: PART {(\"*\" | \"/\" | \"%\") PART}."})
    static void termsAreCloserThanSums() {
        Lands.sum("2 + 3 * 4", 14);
        Lands.sum("2 * 3 + 4", 10);
        Lands.sum("40 / 4 / 2", 5);
        Lands.sum("40 / [4 / 2]", 20);
        Lands.sum("7 * 3 / 2", 10);
        Lands.sum("7 / 2 * 3", 9);
        Lands.sum("100 % 7 * 2", 4);
        Lands.sum("90 - 7 % 4", 87);
        Lands.lawFaults("likes ^*5", "likes ^/5", "likes ^%5", "likes 5 *^", "likes 5 /^", "likes 5 %^", "likes 5 * ^* 5", "likes 5 * ^-5");
        Lands.ordersFaults("swap 0 * ^with 1");
    }

    @Says({"II", "PART: NUMBER (to 1,000)"})
    static void numbersTo1000() {
        Lands.sum("0", 0);
        Lands.sum("1000", 1000);
        Lands.sum("999", 999);
        Lands.sum("01000 / 100", 10);
        Lands.sum("000000000000000000000007", 7);
        Lands.lawFaults("likes ^1001", "likes ^1002", "likes ^2000", "likes ^10000", "likes ^2147483648", "likes ^4294967301", "likes ^4294968",
            "likes ^18446744073709551621", "likes ^99999999999999999999999999", "bars if 1 = ^1001", "likes [^1001]", "likes 5 * ^01001");
        Lands.ordersFaults("pass if ^1001 = 1", "swap ^1001 with 1", "pass if 1 = ^4294967297");
    }

    @Says({"II", "PART: NUMBER (to 1,000) | \"[\" SUM \"]\" | a word, as told."})
    static void bracketsAndWords() {
        Lands.sum("[5]", 5);
        Lands.sum("[[5]]", 5);
        Lands.sum("[2 + 3] * 4", 20);
        Lands.lawFaults("likes [^]", "likes [^", "likes [5^", "likes [5^)", "likes 5^]", "likes [5]^]", "likes [5 ^5]", "likes ^(5)", "likes ^if 1 = 1",
            "likes ^likes", "likes ^x", "likes ^done", "likes ^latest", "likes ^home", "likes ^has 1", "likes bells ^1", "likes ^with", "likes ^;bars");
        for (String word : List.of("town", "sunday", "hats", "own", "had", "miles", "mood", "likes", "swap", "x")) {
            Lands.ordersFaults("pass if ^" + word + " = 1", "swap 0 with ^" + word);
        }
    }

    @Says({"II", "50 PARTS that are NUMBERS and words (FAULT at the 51st)"})
    static void fiftyNumbersAndWords() {
        Lands.lawReads("likes 1" + MORE.repeat(49), "likes own" + "+own".repeat(49), "likes 1" + "+own+1".repeat(24) + MORE);
        Lands.lawFaults("likes 1" + MORE.repeat(49) + "+^1", "likes own" + "+own".repeat(49) + "+^own", "likes 1" + MORE.repeat(49) + "+^own",
            "likes 1" + MORE.repeat(49) + "+^1+1", "likes 1" + MORE.repeat(49) + "+^x", "likes 1" + MORE.repeat(49) + "+^1001",
            "likes 1" + MORE.repeat(49) + "+[^1]", "likes 1" + MORE.repeat(49) + "^]");
        Lands.ordersRead("swap 0 with 2" + "+0".repeat(48), 1);
        Lands.ordersFaults("swap 0 with 2" + "+0".repeat(48) + "+^0", "swap 0 with 2" + "+0".repeat(48) + "+^year");
    }

    @Says({"II", "50 PARTS that are NUMBERS and words (FAULT at the 51st)"})
    static void fiftyInAllClausesTogether() {
        String half = "likes 1" + MORE.repeat(24);
        Lands.lawReads(half + ";" + half, half + " if 1" + MORE.repeat(12) + " = 1" + MORE.repeat(11), half + " if 1 = 1 and 1 = 1;bars;alters 1" + MORE.repeat(20));
        Lands.lawFaults(half + ";" + half + "+^1", half + ";" + half + ";alters ^1", half + ";" + half + ";bars if ^1 = 1", half + ";" + half + " if ^1 = 1",
            half + " if 1" + MORE.repeat(12) + " = 1" + MORE.repeat(11) + "+^1", half + " if 1 = 1 and 1 = 1;bars;alters 1" + MORE.repeat(20) + "+^1");
        // Each TEXT has its own fifty.
        Run x = Lands.three().make("law " + half + ";" + half);
        x.taken("law " + half + ";" + half, 1);
        x.make("tape " + half + ";" + half + "+1");
        x.due("law", -6);
        for (int i = 0; i < 12; i++) x.taken("orders swap 0 with 1" + "+0".repeat(48), 1);
        x.taken("law likes 9;likes 8 if 1 = 2", 2);
        x.tells("compare 2 0 1", 9);
    }

    @Says({"II", "50 PARTS that are NUMBERS and words (FAULT at the 51st)"})
    static void bracketsAndSignsAreNone() {
        Lands.lawReads("likes [1]" + "+[1]".repeat(49), "likes [[[1]]]" + "+[1]".repeat(49), "likes 1" + MORE.repeat(45) + " if not 1 = 1 and not (1 < 1)");
        Lands.lawFaults("likes [1]" + "+[1]".repeat(49) + "+[^1]", "likes 1" + MORE.repeat(45) + " if not 1 = 1 and not (1 < 1) or ^1 = 1");
    }

    @Says({"II", "8 brackets of both kinds within one another (FAULT at the 9th) at most"})
    static void eightBracketsWithinOneAnother() {
        Lands.lawReads("likes " + "[".repeat(8) + "1" + "]".repeat(8), "bars if " + "(".repeat(8) + "1 = 1" + ")".repeat(8));
        Lands.lawFaults("likes " + "[".repeat(8) + "^[1" + "]".repeat(9), "bars if " + "(".repeat(8) + "^(1 = 1" + ")".repeat(9),
            "likes " + "[".repeat(8) + "^[", "bars if " + "(".repeat(8) + "^(", "likes " + "[".repeat(8) + "^[[[[[1");
        Lands.ordersRead("swap " + "[".repeat(8) + "0" + "]".repeat(8) + " with 2", 1);
        Lands.ordersFaults("swap " + "[".repeat(8) + "^[0" + "]".repeat(9) + " with 2", "pass if " + "(".repeat(8) + "^(1 = 1" + ")".repeat(9));
    }

    @Says({"II", "8 brackets of both kinds within one another (FAULT at the 9th) at most"})
    static void bothKindsCountTogether() {
        for (int round = 1; round < 8; round++) {
            String open = "bars if " + "(".repeat(round) + "[".repeat(8 - round);
            Lands.lawReads(open + "1" + "]".repeat(8 - round) + " = 1" + ")".repeat(round));
            Lands.lawFaults(open + "^[1" + "]".repeat(9 - round) + " = 1" + ")".repeat(round));
        }
        Lands.lawFaults("bars if " + "(".repeat(8) + "^[1] = 1" + ")".repeat(8), "bars if " + "(".repeat(8) + "1 = ^[1]" + ")".repeat(8),
            "bars if (" + "[".repeat(7) + "1" + "]".repeat(7) + " = " + "[".repeat(7) + "^[1");
    }

    @Says({"II", "8 brackets of both kinds within one another (FAULT at the 9th) at most"})
    static void sideBySideIsNotWithin() {
        String deep = "[".repeat(8) + "1" + "]".repeat(8);
        Lands.lawReads("likes [1]+[1]+[1]+[1]+[1]+[1]+[1]+[1]+[1]+[1]", "likes " + deep + "+" + deep, "bars if " + deep + " = " + deep,
            "bars if " + "(".repeat(8) + "1 = 1" + ")".repeat(8) + " and " + "(".repeat(8) + "1 = 1" + ")".repeat(8) + " or " + deep + " = 1",
            "likes " + deep + " if " + deep + " = 1;alters " + deep);
        Lands.lawFaults("likes " + deep + "+" + "[".repeat(8) + "^[1");
    }

    @Says({"II", "FAULT: the first TOKEN that can't go on there (the end's: the TEXT's length)."})
    static void faultAtTheFirstThatCannotGoOn() {
        Lands.lawFaults("likes^", "likes  ^", "   ^", "^", "^x y z", "likes ^x y", "likes 5 ^x;", "  ^x", "likes 1;likes ^", "bars if 1 = 1;^x");
        Lands.ordersFaults("swap^", "swap  ^", "   ^", "^", "^x y z", "swap ^x y", "  ^x", "pass;swap 0 ^", "pass;^x");
    }

    @Says({"II", "Beyond 1,000,000,000 either way"})
    static void beyondAThousandMillion() {
        String most = "1000 * 1000 * 1000";
        Lands.likes("likes 7;likes " + most, 99);
        Lands.likes("likes 7;likes 0 - " + most, 0);
        Lands.so(most + " = " + most, true);
        Lands.so(most + " > " + most + " - 1", true);
        Lands.so("0 - " + most + " < 1 - " + most, true);
        Lands.brokenSum(most + " + 1");
        Lands.brokenSum("1 + " + most);
        Lands.brokenSum("0 - " + most + " - 1");
        Lands.brokenSum("0 - 1 - " + most);
        Lands.brokenSum(most + " + 1 - 1");
        Lands.brokenSum(most + " * 2 / 2");
        Lands.brokenSum(most + " - [0 - " + most + "]");
        Lands.brokenSum("[0 - " + most + "] - " + most);
        Lands.brokenSum("[" + most + "] * [" + most + "]");
        Lands.brokenSum("[" + most + "] * [0 - " + most + "]");
        Lands.brokenSum("1000 * 1000 * [1000 + 1]");
        Lands.brokenSum("[0 - 1000] * 1000 * [1000 + 1]");
        // By 32 bits this were 0.
        Lands.brokenSum("256 * 256 * [256 * 256]");
    }

    @Says({"II", "or divided by 0 (/ cut towards 0, % what is left then), a SUM, a TEST is BROKEN"})
    static void divided() {
        for (String sum : List.of("5 / 0", "5 % 0", "0 / 0", "0 % 0", "1 / [2 - 2]", "1 / 0 * 0", "0 * [1 / 0]", "1 + 1 % 0", "[1 / 0]")) Lands.brokenSum(sum);
        Lands.sum("7 / 2", 3);
        Lands.sum("[0 - 7] / 2", -3);
        Lands.sum("7 / [0 - 2]", -3);
        Lands.sum("[0 - 7] / [0 - 2]", 3);
        Lands.sum("1 / 2", 0);
        Lands.sum("[0 - 1] / 2", 0);
        Lands.sum("7 % 2", 1);
        Lands.sum("[0 - 7] % 2", -1);
        Lands.sum("7 % [0 - 2]", 1);
        Lands.sum("[0 - 7] % [0 - 2]", -1);
        Lands.sum("0 / 5", 0);
        Lands.sum("0 % 5", 0);
        Lands.sum("1000 * 1000 * 1000 / [0 - 1] + 1000 * 1000 * 1000", 0);
    }

    @Says({"II", "\"or\", \"and\" ask what stands behind only if it can still matter"})
    static void askedOnlyIfItMatters() {
        Lands.so("1 = 1 or 1 / 0 = 1", true);
        Lands.so("1 = 2 or 1 = 1 or 1 / 0 = 1", true);
        Lands.so("1 = 1 or 1 / 0 = 1 or 1 / 0 = 1", true);
        Lands.so("not (1 = 2 and 1 / 0 = 1)", true);
        Lands.so("not (1 = 1 and 1 = 2 and 1 / 0 = 1)", true);
        Lands.so("not (1 = 2 and 1 / 0 = 1 and 1 / 0 = 1)", true);
        Lands.so("1 = 2 and 1 / 0 = 1 or 1 = 1", true);
        Lands.so("1 = 1 or 1 = 1 and 1 / 0 = 1", true);
        Lands.so("1 = 1 and (1 = 1 or 1 / 0 = 1)", true);
        Lands.so("(1 = 1 or 1 / 0 = 1) and 1 = 1", true);
        Lands.so("not (1 = 1 or 1 / 0 = 1)", false);
        Lands.so("1 = 1 or (1 / 0 = 1 and 1 = 2)", true);
        Lands.so("not (1 = 2 and (1 / 0 = 1 or 1 = 1))", true);
    }

    @Says({"II", "a part that was asked and is BROKEN makes all of it BROKEN"})
    static void brokenPartsBreakAll() {
        for (String test : List.of("1 / 0 = 1", "1 = 1 / 0", "1 / 0 < 1", "1 > 1 / 0", "not 1 / 0 = 1", "1 = 2 or 1 / 0 = 1", "1 / 0 = 1 or 1 = 1",
            "1 / 0 = 1 and 1 = 2", "1 = 1 and 1 / 0 = 1", "1 = 2 or 1 / 0 = 1 or 1 = 1", "1 = 1 and 1 / 0 = 1 or 1 = 1", "(1 / 0 = 1) or 1 = 1",
            "not (1 = 1 and 1 / 0 = 1) or 1 = 1", "1 = 2 and 1 / 0 = 1 or 1 / 0 = 1")) Lands.brokenTest(test);
    }

    // ---- II, LAWS

    @Says({"II", "LAWS, 6 at most"})
    static void sixLawsAtMost() {
        Run x = Lands.three();
        for (int i = 0; i < 6; i++) x.taken("law likes " + i, i);
        x.make("tape likes 9");
        x.refusedLike("law", -5, List.of("end 0"), Set.of());
        x.tells("count 5", 6);
        x.tells("compare 5 0 1", 5);
        x.none("compare 6 0 1");
        x.taken("force 5", -1);
        x.refused("force 6", -2);
    }

    @Says({"II", "one is in FORCE (NONE at first: no CLAUSE)"})
    static void noneIsInForceAtFirst() {
        Run x = Lands.three().make("law likes 50;alters 7;bars");
        x.tells("count 13", -1);
        x.tells("of 0 2", 5);
        x.tells("sunday 1 3", 5);
        x.tells("of 0 16", 1);
        x.taken("force 0", -1);
        x.tells("of 0 2", 50);
        x.tells("sunday 1 3", 7);
        x.tells("of 0 16", 0);
        x.taken("force -1", 0);
        x.tells("of 0 2", 5);
        x.tells("sunday 1 3", 5);
        x.tells("of 0 16", 1);
    }

    @Says({"II", "CLAUSE: ((\"likes\" | \"alters\") SUM | \"bars\") [\"if\" TEST]."})
    static void clausesOfLaws() {
        Lands.lawReads("likes 5", "alters 5", "bars", "likes 5 if 1 = 1", "alters 5 if 1 = 1", "bars if 1 = 1");
        Lands.lawFaults("^if 1 = 1", "^5", "^swap 0 with 1", "^pass", "^round 0 to 1 to 2", "^road 0 to 1", "likes^", "alters^", "alters ^if 1 = 1", "bars ^3",
            "bars if^", "likes 5 ^times 2", "likes 5 ^bars", "likes 5 ^with 1", "likes 5 if 1 = 1 ^if 1 = 1", "bars ^bars", "likes 5 ^likes 5");
    }

    @Says({"II", "Words: \"town\" | \"sunday\" | \"bells\" | \"hats\" | \"own\" | \"had\" | \"miles\" | \"year\" | \"mood\"."})
    static void wordsOfLaws() {
        String[] words = {"town", "1", "sunday", "0", "bells", "3", "hats", "7", "own", "0", "had", "0", "miles", "20", "year", "7", "mood", "8"};
        for (int i = 0; i < words.length; i += 2) Lands.likes("likes " + words[i], Integer.parseInt(words[i + 1]));
    }

    @Says({"II", "All are asked of a TOWN and a SUNDAY (bells, hats: of that;"})
    static void bellsAndHatsOfTheSunday() {
        Run x = Lands.three().make("swap 0 1", "law likes bells * 10 + hats;alters hats - 1;bars if hats = 9 and bells = 1", "force 0");
        for (int t = 0; t < 3; t++) {
            x.tells("of " + t + " 1", 31);
            x.tells("of " + t + " 2", 50);
            x.tells("of " + t + " 3", 19);
        }
        x.tells("sunday 0 3", 0);
        x.tells("sunday 1 3", 0);
        x.tells("sunday 2 3", 8);
        x.tells("of 0 17", 0);
        x.tells("of 2 15", 1);
    }

    @Says({"II", "own: 1, if it is that TOWN's, 0 else"})
    static void ownOrNot() {
        Run x = Lands.ruled("likes 5 + own");
        x.tells("of 0 1", 6);
        x.tells("of 1 1", 5);
        x.make("swap 0 1");
        x.tells("of 0 1", 6);
        x.tells("of 1 1", 5);
        x.tells("of 1 2", 6);
    }

    @Says({"II", "had: how often that TOWN had it"})
    static void hadByThatTown() {
        Run x = Lands.ruled("likes had").make("pass", "pass", "swap 0 1", "pass");
        x.tells("of 0 1", 2);
        x.tells("of 0 2", 1);
        x.tells("of 1 1", 1);
        x.tells("of 1 2", 2);
        x.tells("of 2 1", 0);
        x.tells("of 2 3", 3);
    }

    @Says({"II", "miles: of the ROAD between that TOWN and where the SUNDAY is, 0 if there is none or it is there"})
    static void milesToWhereItIs() {
        Run x = Lands.ruled("likes miles").make("road 0 2 0");
        x.tells("of 0 1", 0);
        x.tells("of 0 2", 10);
        x.tells("of 0 3", 0);
        x.tells("of 1 3", 5);
        x.make("swap 0 1");
        x.tells("of 0 1", 10);
        x.tells("of 0 2", 0);
        x.tells("of 2 1", 5);
        x.tells("of 2 2", 0);
        x.make("close 0 1");
        x.tells("of 0 1", 10);
    }

    @Says({"II", "year: YEAR as it is then"})
    static void yearAsItIsThen() {
        Run x = Lands.ruled("likes year;alters year;bars if year = 1");
        x.tells("of 0 1", 0);
        x.tells("of 0 16", 1);
        x.make("pass");
        x.tells("of 0 1", 1);
        x.tells("sunday 0 3", 1);
        x.tells("of 0 16", 0);
        x.make("terms 0 98");
        x.tells("of 0 1", 98);
        x.make("pass", "pass");
        x.tells("of 0 1", 99);
        x.tells("sunday 0 3", 9);
    }

    @Says({"II", "\"likes\" of any two"})
    static void likesOfAnyTwo() {
        Run x = new Run("town 1 1", "town 2 2", "town 3 3", "law likes 10 * town + sunday;bars", "force 0");
        for (int t = 0; t < 3; t++) for (int s = 0; s < 3; s++) x.tells("of " + t + " " + (1 + s), 10 * t + s);
    }

    @Says({"II", "\"alters\" of a TOWN and the SUNDAY it has"})
    static void altersWhereItIs() {
        Run x = Lands.ruled("alters 1 + 3 * town + own + miles");
        for (int s = 0; s < 3; s++) x.tells("sunday " + s + " 3", 2 + 3 * s);
        x.make("round 0 1 2");
        x.tells("sunday 0 3", 4);
        x.tells("sunday 1 3", 7);
        x.tells("sunday 2 3", 1);
    }

    @Says({"II", "\"bars\" of a SUNDAY and a TOWN to which it would be sent"})
    static void barsWhereItWouldBeSent() {
        Run x = Lands.ruled("bars if town = 0 and sunday = 1");
        x.tells("of 0 16", 0);
        x.tells("of 1 15", 1);
        x.tells("of 0 17", 1);
        x.tells("of 2 16", 1);
        // One that is there already is not sent there.
        Run y = Lands.ruled("bars");
        for (int t = 0; t < 3; t++) for (int s = 0; s < 3; s++) y.tells("of " + t + " " + (15 + s), t == s ? 1 : 0);
    }

    @Says({"II", "A CLAUSE HOLDS, if its \"if\" (if it has one) is so, and neither that nor its SUM is BROKEN."})
    static void clausesThatHold() {
        Lands.likes("likes 5;likes 6", 6);
        Lands.likes("likes 5;likes 6 if 1 = 1", 6);
        Lands.likes("likes 5;likes 6 if 1 = 2", 5);
        Lands.likes("likes 5;likes 6 if 1 / 0 = 1", 5);
        Lands.likes("likes 5;likes 6 if not 1 / 0 = 1", 5);
        Lands.likes("likes 5;likes 1 / 0", 5);
        Lands.likes("likes 5;likes 1 / 0 if 1 = 1", 5);
        Lands.likes("likes 5;likes 1000 * 1000 * 1000 * 2", 5);
        Run x = Lands.ruled("alters 7;alters 8 if 1 = 2;alters 9 % 0;alters 6 if 1 / 0 = 1;bars if 1 / 0 = 1;bars if not 1 / 0 = 1;bars if 1 = 2");
        x.tells("sunday 0 3", 7);
        x.tells("of 0 16", 1);
    }

    @Says({"II", "A TOWN LIKES a SUNDAY by 0 .. 99 as the last \"likes\" that HOLDS tells (else the nearest), by its BELLS without"})
    static void likesFromNoneTo99() {
        Lands.likes("likes 99", 99);
        Lands.likes("likes 100", 99);
        Lands.likes("likes 1000 * 1000 * 1000", 99);
        Lands.likes("likes 0", 0);
        Lands.likes("likes 0 - 1", 0);
        Lands.likes("likes 0 - 1000 * 1000 * 1000", 0);
        Lands.likes("likes 5;likes 7;likes 6", 6);
        Lands.likes("likes 5;likes 7;likes 6 if 1 = 2", 7);
        Lands.likes("likes 100;likes 50 if 1 = 2", 99);
        Lands.likes("likes 5 if 1 = 2", 3);
        Lands.likes("likes 1 / 0", 3);
        Lands.likes("bars;alters 8", 3);
        Lands.likes("likes 6;alters 8;bars", 6);
    }

    @Says({"II", "it ALTERS to BELLS 0 .. 9 likewise, to what there are without"})
    static void altersFromNoneToNine() {
        String[] told = {"9", "9", "10", "9", "1000 * 1000 * 1000", "9", "0", "0", "0 - 1", "0", "0 - 1000 * 1000 * 1000", "0", "4;alters 6", "6", "4;alters 6 if 1 = 2", "4",
            "4 if 1 = 2", "5", "1 / 0", "5", "4;likes 8;bars", "4"};
        for (int i = 0; i < told.length; i += 2) {
            Run x = Lands.ruled("alters " + told[i]);
            x.tells("sunday 1 3", Integer.parseInt(told[i + 1]));
            x.tells("sunday 1 1", 5);
            x.make("pass");
            x.tells("sunday 1 1", Integer.parseInt(told[i + 1]));
        }
        Run y = Lands.ruled("likes 8;bars");
        y.tells("sunday 1 3", 5);
    }

    @Says({"II", "it is BARRED from a TOWN, if \"bars\" HOLDS"})
    static void barredIfAnyHolds() {
        Lands.ruled("bars;bars if 1 = 2").tells("of 0 16", 0);
        Lands.ruled("bars if 1 = 2;bars").tells("of 0 16", 0);
        Lands.ruled("bars if 1 = 2").tells("of 0 16", 1);
        Lands.ruled("bars if 1 / 0 = 1").tells("of 0 16", 1);
        Lands.ruled("likes 0;alters 0").tells("of 0 16", 1);
        Lands.ruled("bars;likes 1 / 0").tells("of 0 16", 0);
        Lands.ruled("bars;likes 1 / 0").refused("swap 0 1", -3);
    }

    // ---- II, ORDERS

    @Says({"II", "\"pass\") [\"times\" TIMES] [\"if\" TEST]."})
    static void clausesOfOrders() {
        Lands.ordersFaults("^5", "^likes 5", "^bars", "^if 1 = 1", "^times 2", "swap^", "swap 0^", "swap 0 ^2", "swap 0 ^to 2", "swap 0 with^", "swap 0 with 2 ^with 2",
            "round 0^", "round 0 ^1 to 2", "round 0 to 1 ^2", "round 0 ^with 1 to 2", "round 0 to 1^", "round 0 to 1 ^with 2", "round 0 to 1 to^", "round 0 to 1 to 2 ^to 0", "road 0^", "road 0 ^1", "road 0 ^with 1",
            "road 0 to^", "road 0 to 1 ^to 2", "pass ^1", "pass ^pass", "pass ^swap 0 with 2", "pass if 1 = 1 ^times 2", "pass if 1 = 1 ^if 1 = 1",
            "pass times 2 ^times 2", "swap ^with 2", "round ^to 1 to 2", "road ^to 1", "swap 0 with 2 ^1", "^close 0 to 1");
        Lands.ordersRead("swap 0 with 2 times 2 if 1 = 1", 2);
        Lands.ordersRead("road 0 to 1 times 3 if 1 = 1;pass;pass if 1 = 2;pass times 2", 6);
        Lands.ordersRead("road 1 to 2;round 0 to 2 to 1;round 0 to 1 to 2", 3);
    }

    @Says({"II", "TIMES: a NUMBER 1 .. 20."})
    static void timesFromOneTo20() {
        Lands.ordersRead("pass times 1", 1);
        Lands.ordersRead("pass times 20", 20);
        Lands.ordersRead("pass times 020", 20);
        Lands.ordersFaults("pass times ^0", "pass times ^21", "pass times ^1000", "pass times ^4294967297", "pass times^", "pass times ^x", "pass times ^year",
            "pass times ^[2]", "pass times ^-1", "pass times ^if 1 = 1", "pass times 2 ^+ 1");
    }

    @Says({"II", "\"has\" T | \"bells\" T (T: a NUMBER 0 .. 6)"})
    static void townsWithinWords() {
        for (String word : List.of("has", "bells")) {
            Lands.ordersRead("pass if " + word + " 0 < 10", 1);
            Lands.ordersRead("pass if " + word + " 6 < 10", 1);
            Lands.ordersRead("pass if " + word + "6<10", 1);
            Lands.ordersRead("pass if " + word + " 002 < 10", 1);
            Lands.ordersFaults("pass if " + word + " ^7 < 10", "pass if " + word + " ^1000 < 10", "pass if " + word + " ^4294967296 < 10", "pass if " + word + "^",
                "pass if " + word + " ^< 10", "pass if " + word + " ^x < 10", "pass if " + word + " ^[1] < 10", "pass if " + word + " ^-1 < 10",
                "pass if " + word + " 1 ^1 < 10", "pass if " + word + " ^has 1 < 10");
        }
    }

    @Says({"II", "T, TIMES aside, NUMBERS and words count as PARTS."})
    static void townsWithinWordsAreNoParts() {
        Lands.ordersRead("pass times 2 if 0 < 1" + "+has 6".repeat(48), 0);
        Lands.ordersFaults("pass times 2 if 0 < 1" + "+has 6".repeat(48) + "+^has 6", "pass times 2 if 0 < 1" + "+has 6".repeat(48) + "+^has",
            "pass if 0 < 1" + "+bells 6".repeat(48) + "+^1", "pass if 0 < 1" + "+year".repeat(48) + "+^year", "pass if 0 < 1" + "+has 6".repeat(47) + "+has ^7");
        Lands.ordersRead("pass times 2;".repeat(10) + "pass times 2 if 1 = 1" + MORE.repeat(24) + "-0".repeat(24), 20);
        Lands.ordersFaults("pass times 2;".repeat(10) + "pass times 2 if 1 = 1" + MORE.repeat(24) + "-0".repeat(24) + "+^0");
    }

    @Says({"II", "(two TOWNS; three TOWNS; two TOWNS; a YEAR.)"})
    static void ordersDoAsCallsDo() {
        Run.alike(Lands.three().make("orders swap 0 with 1"), Lands.three().make("swap 0 1"));
        Run.alike(Lands.three().make("orders round 0 to 1 to 2"), Lands.three().make("round 0 1 2"));
        Run.alike(Lands.three().make("orders round 2 to 1 to 0"), Lands.three().make("round 2 1 0"));
        Run.alike(Lands.three().make("orders road 0 to 1"), Lands.three().make("close 0 1"));
        Run.alike(Lands.three().make("orders pass"), Lands.three().make("pass"));
        Run.alike(Lands.three().make("orders swap 3 - 2 with 1 - 1;pass times 2;road 0 to 2"), Lands.three().make("swap 1 0", "pass", "pass", "close 0 2"));
    }

    @Says({"II", "each as often as TIMES tell (once without)"})
    static void asOftenAsTimesTell() {
        Run x = Lands.three();
        x.taken("orders pass", 1);
        x.tells("count 14", 1);
        x.taken("orders pass times 1", 1);
        x.tells("count 14", 2);
        x.taken("orders pass times 20;pass;pass times 3", 24);
        x.tells("count 14", 26);
        x.taken("orders swap 0 with 1 times 3", 3);
        x.tells("of 0 0", 1);
    }

    @Says({"II", "each time its \"if\" is asked (not run, if it is not so or BROKEN)"})
    static void ifIsAskedEachTime() {
        Run x = Lands.three();
        x.taken("orders pass times 5 if year < 3", 3);
        x.tells("count 14", 3);
        x.taken("orders swap 0 with 1 times 5 if has 0 = 0", 1);
        x.tells("of 0 0", 1);
        x.taken("orders pass if 1 = 2", 0);
        x.taken("orders pass times 3 if 1 / 0 = 1;pass if not 1 / 0 = 1", 0);
        x.taken("orders pass if 1 = 2;swap 0 with 1 if home = 1;pass if home = 3", 2);
        x.tells("count 14", 4);
        x.tells("stopped", -1);
    }

    @Says({"II", "then its SUMS from the left"})
    static void sumsAreAskedBehindTheIf() {
        Run x = Lands.three();
        x.taken("orders swap 1 / 0 with 1 if 1 = 2;round 0 to 0 to 1 % 0 if 1 / 0 = 1;swap 0 with 0 if 1 = 2", 0);
        x.taken("orders swap has 0 with has 0 + 1 times 2 if has 1 = 1", 1);
        x.tells("of 0 0", 1);
        // Each time the SUMS are asked anew: TOWNS 1 and 2, then 2 and 1.
        x.taken("orders swap done + 1 with 2 - done times 2", 2);
        x.tells("of 1 0", 0);
        x.refusedOrders("swap 1 / 0 with 1", 0);
    }

    @Says({"II", "done: how many were run in this TEXT"})
    static void doneOfThisText() {
        Run x = Lands.three();
        x.taken("orders pass if done = 0;pass if 1 = 2;pass if done = 1;pass if done = 3;pass times 9 if done < 6", 6);
        x.taken("orders pass if done = 0", 1);
        x.refusedOrders("pass;pass;swap done with 2", 2);
        x.taken("orders pass if done = 0", 1);
    }

    @Says({"II", "latest: what the latest pass in it told (-1: none)"})
    static void latestOfThisText() {
        Run x = Lands.three();
        x.taken("orders road 0 to 1 times 2 if latest = 0 - 1;pass;swap 0 with 1 if latest = 9;pass if latest = 9", 5);
        x.taken("orders swap 0 with 1 if latest > 0 - 1", 0);
        x.taken("orders swap 0 with 1 if latest < 0;swap 0 with 1 if latest < 0", 2);
        Run none = new Run();
        none.taken("orders pass if latest = 0;pass if latest = 0 - 1;pass if latest = 0", 2);
        // It is told how they LIKE ahead of the YEAR.
        Lands.ruled("likes year + 1").taken("orders pass;pass if latest = 3;pass if latest = 6;pass if latest = 6", 3);
    }

    @Says({"II", "home: how many SUNDAYS are where they are at first"})
    static void homeCounts() {
        Run x = Lands.three();
        x.taken("orders pass if home = 3;swap 0 with 1;pass if home = 1;round 0 to 1 to 2 times 2;pass if home = 1;swap 1 with 2;pass if home = 3", 8);
        new Run().taken("orders pass if home = 0", 1);
    }

    @Says({"II", "has: the SUNDAY a TOWN has, bells: BELLS of that SUNDAY T; -1 each without such a TOWN"})
    static void hasAndBells() {
        Run x = Lands.three().make("swap 0 1");
        for (String test : List.of("has 0 = 1", "has 1 = 0", "has 2 = 2", "has 3 = 0 - 1", "has 6 = 0 - 1", "bells 0 = 3", "bells 1 = 5", "bells 2 = 1",
            "bells 3 = 0 - 1", "bells 6 = 0 - 1")) x.taken("orders road 0 to 1 if " + test, 1);
        new Run().taken("orders pass if has 0 = 0 - 1 and bells 0 = 0 - 1", 1);
        Lands.seven().taken("orders pass if has 6 = 6 and bells 6 = 7", 1);
        x.refusedOrders("swap 0 with has 3", 0);
    }

    @Says({"II", "One that can't be (a BROKEN SUM, as swap(), round(), close() for \"road\", pass() are REFUSED) ends it: all is as it was ahead of it."})
    static void whatCannotBeEndsIt() {
        for (String order : List.of("swap 1 / 0 with 2", "swap 0 with 1 / 0", "round 1 / 0 to 1 to 2", "round 0 to 1 % 0 to 2", "round 0 to 1 to 2 / 0", "road 1 / 0 to 1",
            "road 0 to 1000 * 1000 * 1000 * 1000", "swap 0 with 0", "swap 0 with 3", "swap 0 - 1 with 2", "swap 1000 with 2", "swap 1000 * 1000 * 1000 with 0 - 1000 * 1000 * 1000", "swap 1 with 2", "round 0 to 1 to 1", "round 0 to 0 to 1",
            "round 2 to 1 to 2", "round 0 to 1 to 3", "round 0 to 1 to 2", "road 0 to 0", "road 0 to 3", "road 0 - 1 to 1", "pass if year = 2;swap 1 with 2 times 3")) {
            Lands.rich().refusedOrders("pass;swap 0 with 2;road 0 to 1;" + order, order.startsWith("pass") ? 4 : 3);
            if (!order.startsWith("pass")) Lands.rich().refusedOrders(order + ";pass", 0);
        }
    }

    @Says({"II", "as swap(), round(), close() for \"road\", pass() are REFUSED) ends it: all is as it was ahead of it."})
    static void theLastYearEndsIt() {
        Lands.rich().make("terms 0 998").refusedOrders("pass times 2", 0);
        Lands.rich().make("terms 0 999").refusedOrders("swap 0 with 2;pass;pass", 1);
        Run x = Lands.rich().make("terms 0 989");
        x.refusedOrders("pass times 10;swap 0 with 2 times 2;pass", 2);
        x.taken("orders pass times 10", 10);
        x.tells("count 14", 999);
    }

    @Says({"II", "as swap(), round(), close() for \"road\", pass() are REFUSED) ends it: all is as it was ahead of it."})
    static void noRoadEndsIt() {
        Lands.three().make("road 0 1 0", "pass").refusedOrders("pass;road 0 to 2;road 0 to 1", 2);
    }

    @Says({"II", "all is as it was ahead of it."})
    static void whatCanBeUndoneToo() {
        Run x = Lands.three();
        for (int i = 0; i < 16; i++) x.make(i % 3 == 0 ? "close 0 1" : i % 3 == 1 ? "pass" : "swap 1 2");
        x.refusedOrders("pass times 20;swap 0 with 0", 1);
        x.refusedOrders("pass;swap 0 with 0", 1);
        x.tells("count 6", 16);
        Run y = Lands.three().make("swap 0 1");
        y.refusedOrders("round 0 to 1 to 2 times 3;swap 0 with 0", 1);
        y.taken("undo", 0);
        y.refused("undo", -3);
    }
}
