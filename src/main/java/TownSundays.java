import java.util.Arrays;

/** Towns that exchange their Sundays; README.md says where each call is described. */
public final class TownSundays {
    public static final int NONE = -1;

    private static final int WRONG_NUMBER = -1;
    private static final int NO_SUCH_ONE = -2;
    private static final int CANNOT_BE = -3;
    private static final int NO_ROOM = -5;
    private static final int WRONG_TEXT = -6;

    private static final int MOST_TOWNS = 7;
    private static final int PAIRS = MOST_TOWNS * MOST_TOWNS;
    private static final int MOST_BELLS = 9;
    private static final int MOST_HATS = 9;
    private static final int MOST_MILES = 99;
    private static final int MOST_HAD = 99;
    private static final int MOST_LIKING = 99;
    private static final int MOST_HEARD = 6;
    private static final int MOST_LAWS = 6;
    private static final int MOST_BYTES = 400;
    private static final int MOST_SEED = 1000000;
    private static final int MOST_TIMES_DRAWN = 60;
    private static final int MOST_VANS = 99;
    private static final int MOST_FEW = 20;
    private static final long WHOLE_CHANCE = 1000000000000L;
    private static final int IMAGE_ROOM = 2;

    private static final int YEAR = 0;
    private static final int LOSSES = 1;
    private static final int MOOD = 2;
    private static final int[] MOST_OF_TERM = {999, 10, 9};

    // What a CLAUSE of ORDERS does; undo() tells the first four by these numbers.
    private static final int SWAP = 0;
    private static final int ROUND = 1;
    private static final int CLOSE = 2;
    private static final int PASS = 3;
    private static final int LIKES = 4;
    private static final int ALTERS = 5;
    private static final int BARS = 6;

    // What a step of a read TEXT does.
    private static final int NUMBER = 0;
    private static final int WORD = 1;
    private static final int PLUS = 2;
    private static final int MINUS = 3;
    private static final int TIMES = 4;
    private static final int DIVIDED = 5;
    private static final int LEFT = 6;
    private static final int LESS = 7;
    private static final int MORE = 8;
    private static final int ALIKE = 9;
    private static final int NOT = 10;
    private static final int AND = 11;
    private static final int OR = 12;

    // A CLAUSE has three places for SUMS, then one for its TEST.
    private static final int PLACES = 4;
    private static final int TEST = 3;
    private static final int MOST_CLAUSES = 12;

    /** What a BROKEN SUM or TEST tells: no SUM that is not BROKEN can be so low. */
    private static final int BROKEN = -2147483648;

    private final Land now = new Land();
    // What ORDERS that can't be go back to, as they do in pastAhead.
    private final Land ahead = new Land();
    // The paper of the latest CENTURIES; it has no TOWNS as long as there were none of these.
    private final Land century = new Land();
    // null, as long as that one was not kept.
    private final Land[] images = new Land[IMAGE_ROOM];
    private final Tape tape = new Tape();
    private final Reader reader = new Reader();
    private final Judge judge = new Judge();
    private final Mover mover = new Mover();
    private final Runner runner = new Runner();
    private final Past past = new Past();
    private final Past pastAhead = new Past();
    private final Paper paper = new Paper();
    private final WayHome wayHome = new WayHome();
    private final long[] chances = new long[MOST_FEW];
    private final int[] refusals = new int[5];
    private int latestRefusal = 0;
    private int latestSidings = 0;
    private int stoppedClause = NONE;

    public TownSundays() {
    }

    public int town(int bells, int hats) {
        if (bells < 0 || bells > MOST_BELLS || hats < 0 || hats > MOST_HATS) {
            return refused(WRONG_NUMBER);
        }
        if (now.towns >= MOST_TOWNS) {
            return refused(NO_ROOM);
        }
        int added = now.towns;
        now.bells[added] = bells;
        now.hats[added] = hats;
        now.towns++;
        past.clear();
        return taken(added);
    }

    public int of(int town, int what) {
        if (!now.isTown(town) || what < 0 || what > 3 * MOST_TOWNS) {
            return NONE;
        }
        if (what == 0) {
            return now.has[town];
        }
        int sunday = (what - 1) % MOST_TOWNS;
        if (!now.isTown(sunday)) {
            return NONE;
        }
        int asked = (what - 1) / MOST_TOWNS;
        if (asked == 0) {
            return judge.likingOf(now, now.lawInForce(), town, sunday);
        }
        if (asked == 1) {
            return now.had[town * MOST_TOWNS + sunday];
        }
        return judge.canHave(now, town, sunday) ? 1 : 0;
    }

    public int sunday(int sunday, int what) {
        if (!now.isTown(sunday)) {
            return NONE;
        }
        switch (what) {
            case 0:
                return now.at[sunday];
            case 1:
                return now.bells[sunday];
            case 2:
                return now.hats[sunday];
            case 3:
                return judge.alteredBells(now, sunday);
            default:
                return NONE;
        }
    }

    public int road(int one, int other, int miles) {
        if (miles < 0 || miles > MOST_MILES || one == other) {
            return refused(WRONG_NUMBER);
        }
        if (!now.isTown(one) || !now.isTown(other)) {
            return refused(NO_SUCH_ONE);
        }
        int were = now.milesBetween(one, other);
        now.setRoad(one, other, miles);
        past.clear();
        return taken(were);
    }

    public int between(int one, int other, int what) {
        if (one == other || !now.isTown(one) || !now.isTown(other)) {
            return NONE;
        }
        if (what == 0) {
            return now.milesBetween(one, other);
        }
        return what == 1 ? now.closedBetween(one, other) : NONE;
    }

    public int terms(int what, int value) {
        if (what < 0 || what >= MOST_OF_TERM.length || value < 0 || value > MOST_OF_TERM[what]) {
            return refused(WRONG_NUMBER);
        }
        int was = now.term[what];
        now.term[what] = value;
        past.clear();
        return taken(was);
    }

    public int feed(int a, int b, int c, int d, int e) {
        if (!tape.hasRoomForTwenty()) {
            return NONE;
        }
        tape.addFour(a);
        tape.addFour(b);
        tape.addFour(c);
        tape.addFour(d);
        tape.addFour(e);
        return tape.length;
    }

    public int end(int n) {
        if (n < 0 || n > tape.length) {
            return NONE;
        }
        tape.length = n;
        return n;
    }

    public int row() {
        if (tape.length == 0) {
            return refused(WRONG_TEXT);
        }
        int told = 0;
        int wrong = 0;
        for (int i = 0; i < tape.length; i += 3) {
            if (isRoadTold(i)) {
                now.setRoad(tape.bytes[i], tape.bytes[i + 1], tape.bytes[i + 2]);
                told++;
            } else {
                wrong++;
            }
        }
        tape.length = 0;
        latestSidings = wrong;
        past.clear();
        return taken(told);
    }

    public int sidings() {
        return latestSidings;
    }

    public int law() {
        if (now.lawCount >= MOST_LAWS) {
            tape.length = 0;
            return refused(NO_ROOM);
        }
        boolean readable = reader.readText(tape.bytes, tape.length, false);
        tape.length = 0;
        if (!readable) {
            return refused(WRONG_TEXT);
        }
        int added = now.lawCount;
        now.laws[added] = reader.text.trimmed();
        now.lawCount++;
        return taken(added);
    }

    public int orders() {
        boolean readable = reader.readText(tape.bytes, tape.length, true);
        tape.length = 0;
        stoppedClause = NONE;
        if (!readable) {
            return refused(WRONG_TEXT);
        }
        ahead.copyFrom(now);
        pastAhead.copyFrom(past);
        stoppedClause = runner.runAll(reader.text, now, past);
        if (stoppedClause == NONE) {
            return taken(runner.done);
        }
        now.copyFrom(ahead);
        past.copyFrom(pastAhead);
        return refused(CANNOT_BE);
    }

    public int fault() {
        return reader.fault;
    }

    public int stopped() {
        return stoppedClause;
    }

    public int force(int law) {
        if (law != NONE && !now.isLaw(law)) {
            return refused(NO_SUCH_ONE);
        }
        int was = now.inForce;
        now.inForce = law;
        return taken(was);
    }

    public int swap(int one, int other) {
        past.prepare(now, SWAP);
        int told = mover.trySwap(now, one, other);
        return told < 0 ? refused(told) : moved(told);
    }

    public int round(int first, int second, int third) {
        past.prepare(now, ROUND);
        int told = mover.tryRound(now, first, second, third);
        return told < 0 ? refused(told) : moved(told);
    }

    public int close(int one, int other) {
        past.prepare(now, CLOSE);
        int told = mover.tryClose(now, one, other);
        return told < 0 ? refused(told) : moved(told);
    }

    public int pass() {
        past.prepare(now, PASS);
        int told = mover.tryPass(now);
        return told < 0 ? refused(told) : moved(told);
    }

    public int undo() {
        if (past.kept == 0) {
            return refused(CANNOT_BE);
        }
        return taken(past.takeBack(now));
    }

    public int rings(int town) {
        if (town != NONE && !now.isTown(town)) {
            return NONE;
        }
        return town == NONE ? ringCount() : ringLength(town);
    }

    public int repeated() {
        int times = 1;
        for (int town = 0; town < now.towns; town++) {
            times = commonMultiple(times, ringLength(town));
        }
        return times;
    }

    public int mostLiked(int i) {
        if (i != NONE && !now.isTown(i)) {
            return NONE;
        }
        paper.weighLikings(now, judge);
        return paper.arranged(now.towns, i);
    }

    public int anew(int i) {
        if (i != NONE && !now.isTown(i)) {
            return NONE;
        }
        paper.weighMiles(now, judge);
        int told = paper.arranged(now.towns, i);
        if (told == BROKEN) {
            return NONE;
        }
        // MILES were weighed below 0, so that the most worth is the shortest.
        return i == NONE ? -told : told;
    }

    public int newOnes() {
        paper.weighMiles(now, judge);
        return paper.countWays(now.towns);
    }

    public int home(int i) {
        wayHome.look(now, judge);
        if (wayHome.swaps == NONE || i < NONE || i >= wayHome.swaps) {
            return NONE;
        }
        return i == NONE ? wayHome.swaps : wayHome.swapAt(i);
    }

    public int market(int town) {
        if (!now.isTown(town)) {
            return NONE;
        }
        paper.fillLikings(now, judge);
        paper.fillMay(now, judge);
        return paper.marketed(now, town);
    }

    public int bargains(int i) {
        if (i < NONE) {
            return NONE;
        }
        paper.fillLikings(now, judge);
        paper.fillMay(now, judge);
        return paper.bargain(now, i);
    }

    public int envy(int town) {
        if (!now.isTown(town)) {
            return NONE;
        }
        Text law = now.lawInForce();
        int content = judge.likingOf(now, law, town, now.has[town]);
        int envied = 0;
        for (int other = 0; other < now.towns; other++) {
            if (judge.likingOf(now, law, town, now.has[other]) > content) {
                envied |= 1 << other;
            }
        }
        return envied;
    }

    public int heard(int sunday, int n) {
        if (n < 0 || n > MOST_LIKING) {
            return refused(WRONG_NUMBER);
        }
        if (!now.isTown(sunday)) {
            return refused(NO_SUCH_ONE);
        }
        if (now.heardCount >= MOST_HEARD) {
            return refused(NO_ROOM);
        }
        now.heardOf[now.heardCount] = sunday;
        now.heardBy[now.heardCount] = n;
        now.heardCount++;
        return taken(now.heardCount);
    }

    public int forget() {
        int was = now.heardCount;
        now.heardCount = 0;
        return was;
    }

    public int canBe() {
        paper.fillLikings(now, judge);
        return paper.possible(now);
    }

    public int ask(int what) {
        if (what != 0 && what != 1) {
            return NONE;
        }
        paper.fillLikings(now, judge);
        int possible = paper.possible(now);
        if (possible == 0) {
            return NONE;
        }
        int sunday = paper.bestQuestion(now.towns, possible);
        return what == 0 ? sunday : paper.mostAlike(now.towns, possible, sunday);
    }

    public long few(int k, int n) {
        if (k < 1 || k > MOST_FEW || n < 0 || n > MOST_VANS) {
            return NONE;
        }
        int losses = now.term[LOSSES];
        Arrays.fill(chances, 0);
        chances[0] = WHOLE_CHANCE;
        for (int van = 0; van < n; van++) {
            for (int lost = k - 1; lost >= 0; lost--) {
                long oneMore = lost == 0 ? 0 : chances[lost - 1] * losses / 10;
                chances[lost] = chances[lost] * (10 - losses) / 10 + oneMore;
            }
        }
        long together = 0;
        for (int lost = 0; lost < k; lost++) {
            together += chances[lost];
        }
        return together;
    }

    public int compare(int law, int town, int sunday) {
        if (!now.isTown(town) || !now.isTown(sunday)) {
            return NONE;
        }
        if (law == NONE) {
            return judge.likingOf(now, null, town, sunday);
        }
        return now.isLaw(law) ? judge.likingOf(now, now.laws[law], town, sunday) : NONE;
    }

    public int centuries(int seed, int n) {
        if (seed < 0 || seed > MOST_SEED || n < 1 || n > MOST_TIMES_DRAWN) {
            return refused(WRONG_NUMBER);
        }
        if (now.towns == 0) {
            return refused(CANNOT_BE);
        }
        century.copyFrom(now);
        int drawn = seed;
        for (int i = 0; i < n && century.term[YEAR] < MOST_OF_TERM[YEAR]; i++) {
            drawn = mover.drawYear(century, drawn);
        }
        return taken(century.countHome());
    }

    public int drawn(int k, int what) {
        if (!century.isTown(k)) {
            return NONE;
        }
        if (what == 0) {
            return century.has[k];
        }
        return what == 1 ? century.bells[k] : NONE;
    }

    public int image(int k) {
        if (k < 0 || k >= IMAGE_ROOM) {
            return refused(WRONG_NUMBER);
        }
        if (images[k] == null) {
            images[k] = new Land();
        }
        images[k].copyFrom(now);
        return taken(0);
    }

    public int back(int k) {
        if (k < 0 || k >= IMAGE_ROOM) {
            return refused(WRONG_NUMBER);
        }
        if (images[k] == null) {
            return refused(NO_SUCH_ONE);
        }
        now.copyFrom(images[k]);
        past.clear();
        return taken(0);
    }

    public int count(int what) {
        if (what >= 8 && what <= 12) {
            return refusals[what - 8];
        }
        if (what >= 14 && what <= 16) {
            return now.term[what - 14];
        }
        switch (what) {
            case 0:
                return now.towns;
            case 1:
                return now.countHome();
            case 2:
                return now.countRoads(false);
            case 3:
                return now.countRoads(true);
            case 4:
                return now.heardCount;
            case 5:
                return now.lawCount;
            case 6:
                return past.kept;
            case 7:
                return tape.length;
            case 13:
                return now.inForce;
            default:
                return NONE;
        }
    }

    public int status() {
        return latestRefusal;
    }

    private int taken(int answer) {
        latestRefusal = 0;
        return answer;
    }

    private int moved(int answer) {
        past.keepPrepared();
        return taken(answer);
    }

    private int refused(int by) {
        latestRefusal = by;
        // There is no refusal by -4, so the two lowest come one place sooner.
        int place = by >= CANNOT_BE ? -1 - by : -2 - by;
        if (place >= 0 && place < refusals.length) {
            refusals[place]++;
        }
        return by;
    }

    private boolean isRoadTold(int i) {
        return i + 2 < tape.length
            && tape.bytes[i] != tape.bytes[i + 1]
            && now.isTown(tape.bytes[i])
            && now.isTown(tape.bytes[i + 1])
            && tape.bytes[i + 2] <= MOST_MILES;
    }

    private int ringLength(int town) {
        int length = 1;
        for (int next = now.at[town]; next != town && length < MOST_TOWNS; next = now.at[next]) {
            length++;
        }
        return length;
    }

    private int ringCount() {
        int seen = 0;
        int count = 0;
        for (int town = 0; town < now.towns; town++) {
            if ((seen >> town & 1) == 0) {
                count++;
            }
            int next = town;
            for (int i = 0; i < now.towns; i++) {
                seen |= 1 << next;
                next = now.at[next];
            }
        }
        return count;
    }

    private static int commonMultiple(int one, int other) {
        int multiple = one;
        for (int i = 1; i < other && multiple % other != 0; i++) {
            multiple += one;
        }
        return multiple;
    }

    /** All that an IMAGE keeps. */
    private static final class Land {
        int towns = 0;
        // Places of TOWNS that are not there yet hold what they begin with.
        final int[] has = new int[MOST_TOWNS];
        final int[] at = new int[MOST_TOWNS];
        final int[] bells = new int[MOST_TOWNS];
        final int[] hats = new int[MOST_TOWNS];
        final int[] had = new int[PAIRS];
        final int[] miles = new int[PAIRS];
        /** By each TOWN the bits of those to which its ROAD is CLOSED. */
        final int[] closed = new int[MOST_TOWNS];
        final int[] term = new int[MOST_OF_TERM.length];
        final int[] heardOf = new int[MOST_HEARD];
        final int[] heardBy = new int[MOST_HEARD];
        int heardCount = 0;
        final Text[] laws = new Text[MOST_LAWS];
        int lawCount = 0;
        int inForce = NONE;

        Land() {
            for (int i = 0; i < MOST_TOWNS; i++) {
                has[i] = i;
                at[i] = i;
            }
            term[LOSSES] = 1;
        }

        void copyFrom(Land other) {
            towns = other.towns;
            System.arraycopy(other.has, 0, has, 0, MOST_TOWNS);
            System.arraycopy(other.at, 0, at, 0, MOST_TOWNS);
            System.arraycopy(other.bells, 0, bells, 0, MOST_TOWNS);
            System.arraycopy(other.hats, 0, hats, 0, MOST_TOWNS);
            System.arraycopy(other.had, 0, had, 0, PAIRS);
            System.arraycopy(other.miles, 0, miles, 0, PAIRS);
            System.arraycopy(other.closed, 0, closed, 0, MOST_TOWNS);
            System.arraycopy(other.term, 0, term, 0, MOST_OF_TERM.length);
            System.arraycopy(other.heardOf, 0, heardOf, 0, MOST_HEARD);
            System.arraycopy(other.heardBy, 0, heardBy, 0, MOST_HEARD);
            heardCount = other.heardCount;
            for (int i = 0; i < MOST_LAWS; i++) {
                laws[i] = other.laws[i];
            }
            lawCount = other.lawCount;
            inForce = other.inForce;
        }

        boolean isTown(int number) {
            return number >= 0 && number < towns;
        }

        boolean isLaw(int number) {
            return number >= 0 && number < lawCount;
        }

        Text lawInForce() {
            return isLaw(inForce) ? laws[inForce] : null;
        }

        int milesBetween(int one, int other) {
            return miles[one * MOST_TOWNS + other];
        }

        int closedBetween(int one, int other) {
            return closed[one] >> other & 1;
        }

        void setRoad(int one, int other, int length) {
            miles[one * MOST_TOWNS + other] = length;
            miles[other * MOST_TOWNS + one] = length;
            closed[one] &= ~(1 << other);
            closed[other] &= ~(1 << one);
        }

        void turnClosed(int one, int other) {
            closed[one] ^= 1 << other;
            closed[other] ^= 1 << one;
        }

        void put(int town, int sunday) {
            has[town] = sunday;
            at[sunday] = town;
        }

        int countHome() {
            int home = 0;
            for (int sunday = 0; sunday < towns; sunday++) {
                if (at[sunday] == sunday) {
                    home++;
                }
            }
            return home;
        }

        int countRoads(boolean closedAlone) {
            int roads = 0;
            for (int one = 0; one < towns; one++) {
                for (int other = one + 1; other < towns; other++) {
                    boolean counts = !closedAlone || closedBetween(one, other) == 1;
                    if (counts && milesBetween(one, other) > 0) {
                        roads++;
                    }
                }
            }
            return roads;
        }
    }

    /** The bytes that were fed. */
    private static final class Tape {
        final int[] bytes = new int[MOST_BYTES];
        int length = 0;

        boolean hasRoomForTwenty() {
            return length + 20 <= MOST_BYTES;
        }

        void addFour(int number) {
            for (int shift = 24; shift >= 0 && length < MOST_BYTES; shift -= 8) {
                bytes[length] = number >> shift & 255;
                length++;
            }
        }
    }

    /** A TEXT that was read: steps by which SUMS and TESTS are reckoned, and where each CLAUSE has its own. */
    private static final class Text {
        final int[] step;
        final int[] with;
        final int[] kind;
        final int[] times;
        /** From which step on, and up to which, each place of each CLAUSE is reckoned. */
        final int[] from;
        final int[] to;
        int steps = 0;
        int clauses = 0;

        Text(int stepRoom, int clauseRoom) {
            step = new int[stepRoom];
            with = new int[stepRoom];
            kind = new int[clauseRoom];
            times = new int[clauseRoom];
            from = new int[clauseRoom * PLACES];
            to = new int[clauseRoom * PLACES];
        }

        void clear() {
            steps = 0;
            clauses = 0;
            Arrays.fill(from, 0);
            Arrays.fill(to, 0);
        }

        void add(int what, int number) {
            if (steps < step.length) {
                step[steps] = what;
                with[steps] = number;
                steps++;
            }
        }

        void setPlace(int clause, int place, int since) {
            from[clause * PLACES + place] = since;
            to[clause * PLACES + place] = steps;
        }

        /** What stands behind "or", "and" is left out by going on here. */
        void landJump(int jump) {
            if (jump < with.length) {
                with[jump] = steps;
            }
        }

        /** A copy without room to spare: LAWS are kept, the reader's TEXT is used again. */
        Text trimmed() {
            Text copy = new Text(steps, clauses);
            copy.steps = steps;
            copy.clauses = clauses;
            System.arraycopy(step, 0, copy.step, 0, steps);
            System.arraycopy(with, 0, copy.with, 0, steps);
            System.arraycopy(kind, 0, copy.kind, 0, clauses);
            System.arraycopy(times, 0, copy.times, 0, clauses);
            System.arraycopy(from, 0, copy.from, 0, clauses * PLACES);
            System.arraycopy(to, 0, copy.to, 0, clauses * PLACES);
            return copy;
        }
    }

    /** Reads a TEXT of either language, TOKEN by TOKEN, up to its end or its FAULT. */
    private static final class Reader {
        private static final int MOST_PARTS = 50;
        private static final int MOST_BRACKETS = 8;
        private static final int MOST_NUMBER = 1000;
        private static final int MOST_REPEATS = 20;

        private static final String WORDS =
            "town sunday bells hats own had miles year mood done latest home has likes alters bars swap round road pass with to times if or and not ";

        // What a TOKEN is: a single byte is itself, a word is told by its place in WORDS, from here on.
        private static final int FIRST_WORD = 256;
        private static final int MOOD_WORD = FIRST_WORD + Judge.THAT_MOOD;
        private static final int BELLS_WORD = FIRST_WORD + Judge.BELLS;
        private static final int YEAR_WORD = FIRST_WORD + Judge.THAT_YEAR;
        private static final int DONE_WORD = MOOD_WORD + 1;
        private static final int LATEST_WORD = MOOD_WORD + 2;
        private static final int HOME_WORD = MOOD_WORD + 3;
        private static final int HAS_WORD = MOOD_WORD + 4;
        private static final int LIKES_WORD = MOOD_WORD + 5;
        private static final int ALTERS_WORD = MOOD_WORD + 6;
        private static final int BARS_WORD = MOOD_WORD + 7;
        private static final int SWAP_WORD = MOOD_WORD + 8;
        private static final int ROUND_WORD = MOOD_WORD + 9;
        private static final int ROAD_WORD = MOOD_WORD + 10;
        private static final int PASS_WORD = MOOD_WORD + 11;
        private static final int WITH_WORD = MOOD_WORD + 12;
        private static final int TO_WORD = MOOD_WORD + 13;
        private static final int TIMES_WORD = MOOD_WORD + 14;
        private static final int IF_WORD = MOOD_WORD + 15;
        private static final int OR_WORD = MOOD_WORD + 16;
        private static final int AND_WORD = MOOD_WORD + 17;
        private static final int NOT_WORD = MOOD_WORD + 18;
        private static final int DIGITS = 1000;
        private static final int ENDED = 1001;
        /** No TOKEN is asked for by this: a word of neither language, or all behind the FAULT. */
        private static final int STRANGE = 1002;

        final Text text = new Text(MOST_BYTES, MOST_CLAUSES);
        int fault = NONE;
        private int[] bytes = new int[0];
        private int length = 0;
        private boolean ofOrders = false;
        private int token = ENDED;
        private int tokenFrom = 0;
        private int tokenTo = 0;
        private int tokenNumber = 0;
        private int parts = 0;

        /** Whether the TEXT can be; if it can, it stands in text then. */
        boolean readText(int[] fed, int fedLength, boolean orders) {
            bytes = fed;
            length = Math.min(fedLength, fed.length);
            ofOrders = orders;
            fault = NONE;
            parts = 0;
            tokenTo = 0;
            text.clear();
            nextToken();
            readClause();
            for (int i = 0; i < MOST_BYTES && take(';'); i++) {
                readClause();
            }
            if (token != ENDED) {
                fail();
            }
            return fault == NONE;
        }

        private void nextToken() {
            int i = tokenTo;
            while (i < length && bytes[i] == ' ') {
                i++;
            }
            tokenFrom = i;
            tokenNumber = 0;
            while (i < length && bytes[i] >= '0' && bytes[i] <= '9') {
                // One above the most stands for all that are too high.
                tokenNumber = Math.min(tokenNumber * 10 + bytes[i] - '0', MOST_NUMBER + 1);
                i++;
            }
            token = i > tokenFrom ? DIGITS : ENDED;
            if (token == ENDED && i < length) {
                token = bytes[i];
                while (i < length && bytes[i] >= 'a' && bytes[i] <= 'z') {
                    i++;
                }
                if (i > tokenFrom) {
                    token = wordUpTo(i);
                } else {
                    i++;
                }
            }
            tokenTo = i;
        }

        private int wordUpTo(int to) {
            int word = FIRST_WORD;
            int i = tokenFrom;
            boolean same = true;
            for (int place = 0; place < WORDS.length(); place++) {
                char sign = WORDS.charAt(place);
                if (sign != ' ') {
                    same = same && i < to && bytes[i] == sign;
                    i++;
                } else if (same && i == to) {
                    return word;
                } else {
                    word++;
                    i = tokenFrom;
                    same = true;
                }
            }
            return STRANGE;
        }

        private void fail() {
            if (fault == NONE) {
                fault = tokenFrom;
                token = STRANGE;
            }
        }

        private boolean take(int asked) {
            boolean is = token == asked;
            if (is) {
                nextToken();
            }
            return is;
        }

        private boolean isNumber(int least, int most) {
            return token == DIGITS && tokenNumber >= least && tokenNumber <= most;
        }

        private void readClause() {
            if (text.clauses >= MOST_CLAUSES) {
                fail();
                return;
            }
            int clause = text.clauses;
            text.clauses++;
            text.times[clause] = 1;
            if (ofOrders) {
                readOrder(clause);
                readTimes(clause);
            } else {
                readRule(clause);
            }
            if (take(IF_WORD)) {
                int from = text.steps;
                readTest(0);
                text.setPlace(clause, TEST, from);
            }
        }

        private void readRule(int clause) {
            if (take(LIKES_WORD)) {
                text.kind[clause] = LIKES;
                readSums(clause, 1, STRANGE);
            } else if (take(ALTERS_WORD)) {
                text.kind[clause] = ALTERS;
                readSums(clause, 1, STRANGE);
            } else if (take(BARS_WORD)) {
                text.kind[clause] = BARS;
            } else {
                fail();
            }
        }

        private void readOrder(int clause) {
            if (take(SWAP_WORD)) {
                text.kind[clause] = SWAP;
                readSums(clause, 2, WITH_WORD);
            } else if (take(ROUND_WORD)) {
                text.kind[clause] = ROUND;
                readSums(clause, 3, TO_WORD);
            } else if (take(ROAD_WORD)) {
                text.kind[clause] = CLOSE;
                readSums(clause, 2, TO_WORD);
            } else if (take(PASS_WORD)) {
                text.kind[clause] = PASS;
            } else {
                fail();
            }
        }

        private void readSums(int clause, int count, int between) {
            for (int place = 0; place < count; place++) {
                if (place > 0 && !take(between)) {
                    fail();
                }
                int from = text.steps;
                readSum(0);
                text.setPlace(clause, place, from);
            }
        }

        private void readTimes(int clause) {
            if (!take(TIMES_WORD)) {
                return;
            }
            if (isNumber(1, MOST_REPEATS)) {
                text.times[clause] = tokenNumber;
                nextToken();
            } else {
                fail();
            }
        }

        private void readTest(int brackets) {
            readBoth(brackets);
            for (int i = 0; i < MOST_BYTES && take(OR_WORD); i++) {
                int jump = text.steps;
                text.add(OR, 0);
                readBoth(brackets);
                text.landJump(jump);
            }
        }

        private void readBoth(int brackets) {
            readPlain(brackets);
            for (int i = 0; i < MOST_BYTES && take(AND_WORD); i++) {
                int jump = text.steps;
                text.add(AND, 0);
                readPlain(brackets);
                text.landJump(jump);
            }
        }

        private void readPlain(int brackets) {
            // Turned twice it is as it was, so a row of "not" needs no call for each.
            boolean turned = false;
            for (int i = 0; i < MOST_BYTES && take(NOT_WORD); i++) {
                turned = !turned;
            }
            if (brackets < MOST_BRACKETS && take('(')) {
                readTest(brackets + 1);
                if (!take(')')) {
                    fail();
                }
            } else {
                readSum(brackets);
                int what = token == '<' ? LESS : token == '>' ? MORE : ALIKE;
                if (token == '<' || token == '>' || token == '=') {
                    nextToken();
                } else {
                    fail();
                }
                readSum(brackets);
                text.add(what, 0);
            }
            if (turned) {
                text.add(NOT, 0);
            }
        }

        private void readSum(int brackets) {
            readTerm(brackets);
            for (int i = 0; i < MOST_BYTES && (token == '+' || token == '-'); i++) {
                int what = token == '+' ? PLUS : MINUS;
                nextToken();
                readTerm(brackets);
                text.add(what, 0);
            }
        }

        private void readTerm(int brackets) {
            readPart(brackets);
            for (int i = 0; i < MOST_BYTES && (token == '*' || token == '/' || token == '%'); i++) {
                int what = token == '*' ? TIMES : token == '/' ? DIVIDED : LEFT;
                nextToken();
                readPart(brackets);
                text.add(what, 0);
            }
        }

        private void readPart(int brackets) {
            if (token == '[' && brackets < MOST_BRACKETS) {
                nextToken();
                readSum(brackets + 1);
                if (token == ']') {
                    nextToken();
                } else {
                    fail();
                }
                return;
            }
            parts++;
            boolean isNumber = isNumber(0, MOST_NUMBER);
            int part = isNumber ? tokenNumber : ofOrders ? ordersWord() : lawWord();
            if (!isNumber && ofOrders && part >= Runner.HAS && parts <= MOST_PARTS) {
                nextToken();
                part = isNumber(0, MOST_TOWNS - 1) ? part + tokenNumber : NONE;
            }
            if (part == NONE || parts > MOST_PARTS) {
                fail();
                return;
            }
            text.add(isNumber ? NUMBER : WORD, part);
            nextToken();
        }

        private int lawWord() {
            return token >= FIRST_WORD && token <= MOOD_WORD ? token - FIRST_WORD : NONE;
        }

        private int ordersWord() {
            return token == YEAR_WORD ? Runner.THAT_YEAR
                : token == DONE_WORD ? Runner.DONE
                : token == LATEST_WORD ? Runner.LATEST
                : token == HOME_WORD ? Runner.HOME
                : token == HAS_WORD ? Runner.HAS
                : token == BELLS_WORD ? Runner.BELLS
                : NONE;
        }
    }

    /** Reckons SUMS and TESTS of a TEXT. */
    private static final class Reckoner {
        private static final long FARTHEST = 1000000000L;
        // More than the most PARTS of a TEXT, which alone are put on it.
        private final int[] stack = new int[64];

        /** The SUM, or 1 and 0 for a TEST that is so and is not; 1 for a place where none stands. */
        int reckon(Text text, int place, int[] words) {
            int depth = 0;
            int to = Math.min(text.to[place], text.steps);
            for (int i = text.from[place]; i < to; i++) {
                int what = text.step[i];
                int with = text.with[i];
                if (what == NUMBER || what == WORD) {
                    if (depth >= stack.length || what == WORD && with >= words.length) {
                        return BROKEN;
                    }
                    stack[depth] = what == NUMBER ? with : words[with];
                    depth++;
                } else if (depth < (what < NOT ? 2 : 1)) {
                    return BROKEN;
                } else if (what == NOT) {
                    stack[depth - 1] = 1 - stack[depth - 1];
                } else if (what == AND || what == OR) {
                    if (stack[depth - 1] == (what == AND ? 0 : 1)) {
                        i = Math.max(i, with - 1);
                    } else {
                        depth--;
                    }
                } else {
                    depth--;
                    stack[depth - 1] = combined(what, stack[depth - 1], stack[depth]);
                    if (stack[depth - 1] == BROKEN) {
                        return BROKEN;
                    }
                }
            }
            return depth == 0 ? 1 : stack[0];
        }

        private static int combined(int what, int left, int right) {
            if ((what == DIVIDED || what == LEFT) && right == 0) {
                return BROKEN;
            }
            long told;
            switch (what) {
                case PLUS:
                    told = (long) left + right;
                    break;
                case MINUS:
                    told = (long) left - right;
                    break;
                case TIMES:
                    told = (long) left * right;
                    break;
                case DIVIDED:
                    told = left / right;
                    break;
                case LEFT:
                    told = left % right;
                    break;
                case LESS:
                    told = left < right ? 1 : 0;
                    break;
                case MORE:
                    told = left > right ? 1 : 0;
                    break;
                default:
                    told = left == right ? 1 : 0;
                    break;
            }
            return told > FARTHEST || told < -FARTHEST ? BROKEN : (int) told;
        }
    }

    /** Asks LAWS. */
    private static final class Judge {
        static final int TOWN = 0;
        static final int SUNDAY = 1;
        static final int BELLS = 2;
        static final int HATS = 3;
        static final int OWN = 4;
        static final int HAD = 5;
        static final int MILES = 6;
        static final int THAT_YEAR = 7;
        static final int THAT_MOOD = 8;

        private final int[] words = new int[9];
        private final Reckoner reckoner = new Reckoner();

        int likingOf(Land land, Text law, int town, int sunday) {
            if (law == null) {
                return land.bells[sunday];
            }
            setWords(land, town, sunday, land.at[sunday]);
            int told = lastTold(law, LIKES);
            return told == BROKEN ? land.bells[sunday] : nearest(told, MOST_LIKING);
        }

        int alteredBells(Land land, int sunday) {
            Text law = land.lawInForce();
            if (law == null) {
                return land.bells[sunday];
            }
            setWords(land, land.at[sunday], sunday, land.at[sunday]);
            int told = lastTold(law, ALTERS);
            return told == BROKEN ? land.bells[sunday] : nearest(told, MOST_BELLS);
        }

        /** Whether a SUNDAY can be SENT from a place (where it is, or would be on paper) to a TOWN. */
        boolean canSend(Land land, int sunday, int place, int town) {
            if (land.milesBetween(place, town) == 0 || land.closedBetween(place, town) == 1) {
                return false;
            }
            Text law = land.lawInForce();
            if (law == null) {
                return true;
            }
            setWords(land, town, sunday, place);
            return lastTold(law, BARS) == BROKEN;
        }

        boolean canHave(Land land, int town, int sunday) {
            return land.at[sunday] == town || canSend(land, sunday, land.at[sunday], town);
        }

        private void setWords(Land land, int town, int sunday, int place) {
            words[TOWN] = town;
            words[SUNDAY] = sunday;
            words[BELLS] = land.bells[sunday];
            words[HATS] = land.hats[sunday];
            words[OWN] = town == sunday ? 1 : 0;
            words[HAD] = land.had[town * MOST_TOWNS + sunday];
            words[MILES] = land.milesBetween(place, town);
            words[THAT_YEAR] = land.term[YEAR];
            words[THAT_MOOD] = land.term[MOOD];
        }

        /** What the last CLAUSE of a kind tells that HOLDS; BROKEN, if none does. */
        private int lastTold(Text law, int kind) {
            for (int clause = law.clauses - 1; clause >= 0; clause--) {
                int place = clause * PLACES;
                if (law.kind[clause] == kind && reckoner.reckon(law, place + TEST, words) == 1) {
                    int told = reckoner.reckon(law, place, words);
                    if (told != BROKEN) {
                        return told;
                    }
                }
            }
            return BROKEN;
        }

        private static int nearest(int told, int most) {
            return Math.max(0, Math.min(told, most));
        }
    }

    /** Does what swap(), round(), close(), pass() do to any land; tells what these answer. */
    private static final class Mover {
        private final Judge judge = new Judge();
        private final int[] bellsThen = new int[MOST_TOWNS];

        int trySwap(Land land, int one, int other) {
            if (one == other) {
                return WRONG_NUMBER;
            }
            if (!land.isTown(one) || !land.isTown(other)) {
                return NO_SUCH_ONE;
            }
            int ones = land.has[one];
            int others = land.has[other];
            if (!judge.canSend(land, ones, one, other) || !judge.canSend(land, others, other, one)) {
                return CANNOT_BE;
            }
            land.put(one, others);
            land.put(other, ones);
            return others;
        }

        int tryRound(Land land, int first, int second, int third) {
            if (first == second || second == third || first == third) {
                return WRONG_NUMBER;
            }
            if (!land.isTown(first) || !land.isTown(second) || !land.isTown(third)) {
                return NO_SUCH_ONE;
            }
            int firsts = land.has[first];
            int seconds = land.has[second];
            int thirds = land.has[third];
            if (!judge.canSend(land, firsts, first, second)
                || !judge.canSend(land, seconds, second, third)
                || !judge.canSend(land, thirds, third, first)) {
                return CANNOT_BE;
            }
            land.put(second, firsts);
            land.put(third, seconds);
            land.put(first, thirds);
            return thirds;
        }

        int tryClose(Land land, int one, int other) {
            if (one == other) {
                return WRONG_NUMBER;
            }
            if (!land.isTown(one) || !land.isTown(other)) {
                return NO_SUCH_ONE;
            }
            if (land.milesBetween(one, other) == 0) {
                return CANNOT_BE;
            }
            land.turnClosed(one, other);
            return land.closedBetween(one, other);
        }

        int tryPass(Land land) {
            if (land.term[YEAR] >= MOST_OF_TERM[YEAR]) {
                return CANNOT_BE;
            }
            Text law = land.lawInForce();
            int together = 0;
            for (int town = 0; town < land.towns; town++) {
                int sunday = land.has[town];
                together += judge.likingOf(land, law, town, sunday);
                bellsThen[sunday] = judge.alteredBells(land, sunday);
            }
            for (int town = 0; town < land.towns; town++) {
                int pair = town * MOST_TOWNS + land.has[town];
                land.had[pair] = Math.min(land.had[pair] + 1, MOST_HAD);
                land.bells[town] = bellsThen[town];
            }
            land.term[YEAR]++;
            return together;
        }

        /** One time of CENTURIES: what was drawn last goes in, and what is drawn last then comes out. */
        int drawYear(Land land, int drawn) {
            int forFirst = nextDrawn(drawn);
            int forSecond = nextDrawn(forFirst);
            int forThird = nextDrawn(forSecond);
            int forLast = nextDrawn(forThird);
            if (land.towns == 0) {
                return forLast;
            }
            int first = forFirst % land.towns;
            int second = forSecond % land.towns;
            int third = forThird % land.towns;
            int choice = forLast % 4;
            if (choice < 2) {
                trySwap(land, first, second);
            } else if (choice == 2) {
                tryRound(land, first, second, third);
            }
            tryPass(land);
            return forLast;
        }

        private static int nextDrawn(int drawn) {
            return (drawn * 1103 + 12345) % 1000003;
        }
    }

    /** Runs ORDERS. */
    private static final class Runner {
        static final int THAT_YEAR = 0;
        static final int DONE = 1;
        static final int LATEST = 2;
        static final int HOME = 3;
        static final int HAS = 4;
        static final int BELLS = HAS + MOST_TOWNS;

        int done = 0;
        private int latest = NONE;
        private final Mover mover = new Mover();
        private final int[] words = new int[BELLS + MOST_TOWNS];
        private final Reckoner reckoner = new Reckoner();

        /** The CLAUSE that can't be, behind which nothing is run; NONE, if there is none. */
        int runAll(Text text, Land land, Past past) {
            done = 0;
            latest = NONE;
            for (int clause = 0; clause < text.clauses; clause++) {
                for (int i = 0; i < text.times[clause]; i++) {
                    if (!runOnce(text, clause, land, past)) {
                        return clause;
                    }
                }
            }
            return NONE;
        }

        private boolean runOnce(Text text, int clause, Land land, Past past) {
            setWords(land);
            int place = clause * PLACES;
            if (reckoner.reckon(text, place + TEST, words) != 1) {
                return true;
            }
            int first = reckoner.reckon(text, place, words);
            int second = reckoner.reckon(text, place + 1, words);
            int third = reckoner.reckon(text, place + 2, words);
            if (first == BROKEN || second == BROKEN || third == BROKEN) {
                return false;
            }
            int kind = text.kind[clause];
            past.prepare(land, kind);
            int told = kind == SWAP ? mover.trySwap(land, first, second)
                : kind == ROUND ? mover.tryRound(land, first, second, third)
                : kind == CLOSE ? mover.tryClose(land, first, second)
                : mover.tryPass(land);
            if (told < 0) {
                return false;
            }
            past.keepPrepared();
            done++;
            if (kind == PASS) {
                latest = told;
            }
            return true;
        }

        private void setWords(Land land) {
            words[THAT_YEAR] = land.term[YEAR];
            words[DONE] = done;
            words[LATEST] = latest;
            words[HOME] = land.countHome();
            for (int i = 0; i < MOST_TOWNS; i++) {
                words[HAS + i] = i < land.towns ? land.has[i] : NONE;
                words[BELLS + i] = i < land.towns ? land.bells[i] : NONE;
            }
        }
    }

    /** What can be undone: rows of how all was ahead, the latest ones, round and round. */
    private static final class Past {
        private static final int MOST_KEPT = 16;
        // One row more than are kept: that which is prepared must not cost the oldest, if it comes to nothing.
        private static final int ROWS = MOST_KEPT + 1;
        private static final int BELLS_FROM = MOST_TOWNS;
        private static final int CLOSED_FROM = 2 * MOST_TOWNS;
        private static final int HAD_FROM = 3 * MOST_TOWNS;
        private static final int YEAR_AT = HAD_FROM + PAIRS;
        private static final int KIND_AT = YEAR_AT + 1;
        private static final int WIDTH = KIND_AT + 1;

        int kept = 0;
        private int next = 0;
        private final int[] rows = new int[ROWS * WIDTH];

        void clear() {
            kept = 0;
        }

        void copyFrom(Past other) {
            kept = other.kept;
            next = other.next;
            System.arraycopy(other.rows, 0, rows, 0, rows.length);
        }

        void prepare(Land land, int kind) {
            int from = next * WIDTH;
            System.arraycopy(land.has, 0, rows, from, MOST_TOWNS);
            System.arraycopy(land.bells, 0, rows, from + BELLS_FROM, MOST_TOWNS);
            System.arraycopy(land.closed, 0, rows, from + CLOSED_FROM, MOST_TOWNS);
            System.arraycopy(land.had, 0, rows, from + HAD_FROM, PAIRS);
            rows[from + YEAR_AT] = land.term[YEAR];
            rows[from + KIND_AT] = kind;
        }

        void keepPrepared() {
            next = (next + 1) % ROWS;
            kept = Math.min(kept + 1, MOST_KEPT);
        }

        /** The kind of what is undone. */
        int takeBack(Land land) {
            next = (next + ROWS - 1) % ROWS;
            kept = Math.max(kept - 1, 0);
            int from = next * WIDTH;
            for (int town = 0; town < land.towns; town++) {
                land.put(town, rows[from + town]);
            }
            System.arraycopy(rows, from + BELLS_FROM, land.bells, 0, MOST_TOWNS);
            System.arraycopy(rows, from + CLOSED_FROM, land.closed, 0, MOST_TOWNS);
            System.arraycopy(rows, from + HAD_FROM, land.had, 0, PAIRS);
            land.term[YEAR] = rows[from + YEAR_AT];
            return rows[from + KIND_AT];
        }
    }

    /** What is reckoned on paper from how TOWNS LIKE SUNDAYS and where these could be SENT. */
    private static final class Paper {
        /** By TOWN, then by SUNDAY. */
        private final int[] likings = new int[PAIRS];
        /** By TOWN the bits of SUNDAYS that could be SENT there or are there. */
        private final int[] may = new int[MOST_TOWNS];
        /** By TOWN, then by SUNDAY; BROKEN, where it can't be. */
        private final int[] worth = new int[PAIRS];
        /** By the bits of SUNDAYS that the first TOWNS have: the most worth of the rest, and how many ways. */
        private final int[] best = new int[1 << MOST_TOWNS];
        private final int[] ways = new int[1 << MOST_TOWNS];
        private final int[] wishes = new int[MOST_TOWNS];

        void fillLikings(Land land, Judge judge) {
            Text law = land.lawInForce();
            for (int town = 0; town < land.towns; town++) {
                for (int sunday = 0; sunday < land.towns; sunday++) {
                    likings[town * MOST_TOWNS + sunday] = judge.likingOf(land, law, town, sunday);
                }
            }
        }

        void fillMay(Land land, Judge judge) {
            for (int town = 0; town < land.towns; town++) {
                may[town] = 0;
                for (int sunday = 0; sunday < land.towns; sunday++) {
                    if (judge.canHave(land, town, sunday)) {
                        may[town] |= 1 << sunday;
                    }
                }
            }
        }

        void weighLikings(Land land, Judge judge) {
            fillLikings(land, judge);
            fillMay(land, judge);
            for (int town = 0; town < land.towns; town++) {
                for (int sunday = 0; sunday < land.towns; sunday++) {
                    int pair = town * MOST_TOWNS + sunday;
                    worth[pair] = (may[town] >> sunday & 1) == 1 ? likings[pair] : BROKEN;
                }
            }
        }

        void weighMiles(Land land, Judge judge) {
            fillMay(land, judge);
            for (int town = 0; town < land.towns; town++) {
                for (int sunday = 0; sunday < land.towns; sunday++) {
                    int pair = town * MOST_TOWNS + sunday;
                    boolean isNew = (may[town] >> sunday & 1) == 1 && land.had[pair] == 0;
                    worth[pair] = isNew ? -land.milesBetween(land.at[sunday], town) : BROKEN;
                }
            }
        }

        int countWays(int towns) {
            int all = (1 << towns) - 1;
            best[all] = 0;
            ways[all] = 1;
            for (int used = all - 1; used >= 0; used--) {
                weighRest(used, towns);
            }
            return ways[0];
        }

        /** As many SUNDAYS are used as TOWNS stand ahead of the one that is asked here. */
        private void weighRest(int used, int towns) {
            int town = Integer.bitCount(used);
            int most = BROKEN;
            int together = 0;
            for (int sunday = 0; sunday < towns; sunday++) {
                int through = worthThrough(used, town, sunday);
                if (through != BROKEN) {
                    most = Math.max(most, through);
                    together += ways[used | 1 << sunday];
                }
            }
            best[used] = most;
            ways[used] = together;
        }

        private int worthThrough(int used, int town, int sunday) {
            int own = worth[town * MOST_TOWNS + sunday];
            int then = used | 1 << sunday;
            return then == used || own == BROKEN || ways[then] == 0 ? BROKEN : own + best[then];
        }

        /** Of the arrangement of most worth that (i NONE), or the SUNDAY of TOWN i; BROKEN, if there is none. */
        int arranged(int towns, int i) {
            if (countWays(towns) == 0) {
                return BROKEN;
            }
            if (i == NONE) {
                return best[0];
            }
            int used = 0;
            int latest = BROKEN;
            for (int town = 0; town <= i && town < towns; town++) {
                latest = firstOfBest(used, town, towns);
                used |= 1 << latest;
            }
            return latest;
        }

        private int firstOfBest(int used, int town, int towns) {
            int sunday = 0;
            while (sunday < towns - 1 && worthThrough(used, town, sunday) != best[used]) {
                sunday++;
            }
            return sunday;
        }

        /** What a TOWN has behind the MARKET. */
        int marketed(Land land, int town) {
            int staying = (1 << land.towns) - 1;
            for (int i = 0; i < land.towns && (staying >> town & 1) == 1; i++) {
                setWishes(land, staying);
                staying &= ~inRings(land, staying);
            }
            return wishes[town];
        }

        private void setWishes(Land land, int staying) {
            for (int town = 0; town < land.towns; town++) {
                if ((staying >> town & 1) == 1) {
                    wishes[town] = wishOf(land, town, staying);
                }
            }
        }

        private int wishOf(Land land, int town, int staying) {
            int wish = NONE;
            int most = NONE;
            for (int sunday = 0; sunday < land.towns; sunday++) {
                boolean offered = (staying >> land.at[sunday] & 1) == 1 && (may[town] >> sunday & 1) == 1;
                int liking = likings[town * MOST_TOWNS + sunday];
                if (offered && liking > most) {
                    wish = sunday;
                    most = liking;
                }
            }
            return wish == NONE ? land.has[town] : wish;
        }

        private int inRings(Land land, int staying) {
            int leaving = 0;
            for (int town = 0; town < land.towns; town++) {
                int asked = town;
                for (int i = 0; i < land.towns && (staying >> town & 1) == 1; i++) {
                    asked = land.at[wishes[asked]];
                    if (asked == town) {
                        leaving |= 1 << town;
                    }
                }
            }
            return leaving;
        }

        /** How many BARGAINS (i NONE), or the i-th; NONE, if there are not so many. */
        int bargain(Land land, int i) {
            int found = 0;
            for (int one = 0; one < land.towns; one++) {
                for (int other = one + 1; other < land.towns; other++) {
                    if (gains(land, one, other) && gains(land, other, one)) {
                        if (found == i) {
                            return one * MOST_TOWNS + other;
                        }
                        found++;
                    }
                }
            }
            return i == NONE ? found : NONE;
        }

        private boolean gains(Land land, int one, int other) {
            int mine = likings[one * MOST_TOWNS + land.has[one]];
            int theirs = likings[one * MOST_TOWNS + land.has[other]];
            return theirs > mine && (may[one] >> land.has[other] & 1) == 1;
        }

        /** The bits of TOWNS of which all that was HEARD is so. */
        int possible(Land land) {
            int possible = 0;
            for (int town = 0; town < land.towns; town++) {
                boolean fits = true;
                for (int i = 0; i < land.heardCount && i < MOST_HEARD; i++) {
                    fits = fits && likings[town * MOST_TOWNS + land.heardOf[i]] == land.heardBy[i];
                }
                if (fits) {
                    possible |= 1 << town;
                }
            }
            return possible;
        }

        int bestQuestion(int towns, int possible) {
            int best = 0;
            for (int sunday = 1; sunday < towns; sunday++) {
                if (mostAlike(towns, possible, sunday) < mostAlike(towns, possible, best)) {
                    best = sunday;
                }
            }
            return best;
        }

        /** How many of the possible TOWNS at most LIKE a SUNDAY alike. */
        int mostAlike(int towns, int possible, int sunday) {
            int most = 0;
            for (int town = 0; town < towns; town++) {
                int alike = 0;
                for (int other = 0; other < towns; other++) {
                    boolean both = (possible >> town & possible >> other & 1) == 1;
                    if (both && likings[town * MOST_TOWNS + sunday] == likings[other * MOST_TOWNS + sunday]) {
                        alike++;
                    }
                }
                most = Math.max(most, alike);
            }
            return most;
        }
    }

    /** HOME: arrangements are looked at by how many SWAPS lead to them, the first rows of SWAPS first. */
    private static final class WayHome {
        private static final int MOST_ARRANGEMENTS = 5040;
        private static final int BITS = 3;
        private static final int LOW_BITS = (1 << BITS) - 1;
        private static final int STATE_BITS = BITS * MOST_TOWNS;
        private static final int STATE_MASK = (1 << STATE_BITS) - 1;
        // What the seventh TOWN has follows from what the six others have.
        private static final int SEEN_MASK = (1 << STATE_BITS - BITS) - 1;

        /** How many SWAPS; NONE, if it can't be. */
        int swaps = NONE;
        private int goal = NONE;
        private int foundTowns = NONE;
        private int foundStart = NONE;
        /** By SUNDAY, then by the TOWN where it is: the bits of TOWNS to which it could be SENT. */
        private final int[] sendable = new int[PAIRS];
        private final int[] foundSendable = new int[PAIRS];
        // These are made when they are first needed: most objects never ask for the way.
        private int[] queue = null;
        private int[] parents = null;
        private long[] seen = null;

        /** Finds the way, unless what is found already was found of the same. */
        void look(Land land, Judge judge) {
            fillSendable(land, judge);
            int start = 0;
            for (int town = 0; town < MOST_TOWNS; town++) {
                start |= land.has[town] << BITS * town;
            }
            if (isFound(land.towns, start)) {
                return;
            }
            foundTowns = land.towns;
            foundStart = start;
            System.arraycopy(sendable, 0, foundSendable, 0, PAIRS);
            int home = 0;
            for (int town = 0; town < MOST_TOWNS; town++) {
                home |= town << BITS * town;
            }
            swaps = start == home ? 0 : search(land.towns, start, home);
        }

        /** The i-th SWAP, as 7 times the lower TOWN and the higher one. */
        int swapAt(int i) {
            if (goal == NONE || queue == null || parents == null) {
                return NONE;
            }
            int at = goal;
            for (int back = swaps - 1; back > i && parents[at] >= 0; back--) {
                at = parents[at];
            }
            return queue[at] >> STATE_BITS;
        }

        private void fillSendable(Land land, Judge judge) {
            Arrays.fill(sendable, 0);
            for (int sunday = 0; sunday < land.towns; sunday++) {
                for (int place = 0; place < land.towns; place++) {
                    for (int town = 0; town < land.towns; town++) {
                        if (judge.canSend(land, sunday, place, town)) {
                            sendable[sunday * MOST_TOWNS + place] |= 1 << town;
                        }
                    }
                }
            }
        }

        private boolean isFound(int towns, int start) {
            boolean same = foundTowns == towns && foundStart == start;
            for (int i = 0; i < PAIRS && same; i++) {
                same = sendable[i] == foundSendable[i];
            }
            return same;
        }

        private void makeRoom() {
            if (queue == null || parents == null || seen == null) {
                queue = new int[MOST_ARRANGEMENTS];
                parents = new int[MOST_ARRANGEMENTS];
                seen = new long[SEEN_MASK + 1 >> 6];
            }
            Arrays.fill(seen, 0);
        }

        private int search(int towns, int start, int home) {
            makeRoom();
            queue[0] = start;
            parents[0] = NONE;
            markSeen(start);
            goal = NONE;
            int tail = 1;
            for (int head = 0; head < tail && head < MOST_ARRANGEMENTS && goal == NONE; head++) {
                tail = addNext(head, tail, towns, home);
            }
            return goal == NONE ? NONE : stepsTo(goal);
        }

        private boolean markSeen(int state) {
            int place = (state & SEEN_MASK) >> 6;
            long bit = 1L << (state & 63);
            boolean isNew = (seen[place] & bit) == 0;
            seen[place] |= bit;
            return isNew;
        }

        private int addNext(int head, int tail, int towns, int home) {
            int state = queue[head] & STATE_MASK;
            int end = tail;
            for (int one = 0; one < towns; one++) {
                int ones = state >> BITS * one & LOW_BITS;
                int reach = sendable[ones * MOST_TOWNS + one];
                for (int other = one + 1; other < towns && end < MOST_ARRANGEMENTS; other++) {
                    int others = state >> BITS * other & LOW_BITS;
                    if ((reach >> other & sendable[others * MOST_TOWNS + other] >> one & 1) == 0) {
                        continue;
                    }
                    int differing = ones ^ others;
                    int next = state ^ differing << BITS * one ^ differing << BITS * other;
                    if (markSeen(next)) {
                        queue[end] = next | one * MOST_TOWNS + other << STATE_BITS;
                        parents[end] = head;
                        // The first way to an arrangement is its first row, so later ones do not count.
                        goal = next == home ? end : goal;
                        end++;
                    }
                }
            }
            return end;
        }

        private int stepsTo(int found) {
            int steps = 0;
            int at = found;
            while (parents[at] >= 0 && steps < MOST_ARRANGEMENTS) {
                at = parents[at];
                steps++;
            }
            return steps;
        }
    }
}
