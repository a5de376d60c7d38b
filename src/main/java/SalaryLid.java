import java.util.Arrays;
import java.util.NoSuchElementException;

public final class SalaryLid {
    public static final int NONE = -1;
    public static final int HIDDEN = -1000000;

    private static final int TAPE_MAX = 400;
    private static final int PLAYER_MAX = 16;
    private static final int WEEK_MAX = 6;
    private static final int PLACES = 4;
    private static final int CLUBS = 6;
    private static final int SIZE_MAX = 6;
    private static final int PRICE_MAX = 99;
    private static final int PRICES_MAX = SIZE_MAX * PRICE_MAX;
    private static final int ACTS_MAX = 12;
    private static final int DRAWS_MAX = 50;

    // Two places of three slots with eight players each: no other league has as many teams.
    private static final int TEAMS_MAX = 3136;

    private static final int LID = 0;
    private static final int CLUB = 1;
    private static final int WEEKS = 2;
    private static final int COST = 3;
    private static final int RISE = 4;
    private static final int FALL = 5;
    private static final int RULES = 6;

    private static final int TRIPLE = 0;
    private static final int WILD = 1;
    private static final int LOAN = 2;
    private static final int CHIPS = 3;

    private static final int FREE_MAX = 2;

    private static final int NOT_NOW = 0;
    private static final int UNKNOWN = 1;
    private static final int NO_MONEY = 2;
    private static final int NO_TEAM = 3;
    private static final int NO_CHIP = 4;
    private static final int REASONS = 5;
    private static final int FINE = -1;

    private static final int TALE_WORDS = 6;

    // Below all sums of points that a league can have, and far from where an int goes round.
    private static final int LOW = -100000000;

    private final Tape tape;
    private final Reader reader;
    private final TeamTable table;
    private final Season season;
    private final Season kept;
    private final History history;
    private final SwapSearch search;
    private final Planner planner;
    private final int[] refused;
    private League told;
    private League draft;
    private boolean hasLeague;
    private boolean hasImage;

    public SalaryLid() {
        tape = new Tape();
        reader = new Reader(tape);
        table = new TeamTable();
        season = new Season();
        kept = new Season();
        history = new History();
        search = new SwapSearch();
        planner = new Planner();
        refused = new int[REASONS];
        told = new League();
        draft = new League();
        hasLeague = false;
        hasImage = false;
    }

    // ---- the tape and the league ----

    public int feed(int a, int b, int c, int d, int e) {
        int more = Tape.bytesIn(a) + Tape.bytesIn(b) + Tape.bytesIn(c) + Tape.bytesIn(d) + Tape.bytesIn(e);
        if (tape.length + more > TAPE_MAX) {
            return NONE;
        }
        tape.take(a);
        tape.take(b);
        tape.take(c);
        tape.take(d);
        tape.take(e);
        return tape.length;
    }

    public boolean end(int n) {
        if (n < 0 || n > tape.length) {
            return false;
        }
        tape.length = n;
        return true;
    }

    public int fault() {
        return reader.read(draft);
    }

    public int league() {
        if (reader.read(draft) != NONE) {
            return NONE;
        }
        League before = told;
        told = draft;
        draft = before;
        told.complete();
        table.build(told);
        tape.length = 0;
        season.clear();
        history.size = 0;
        hasLeague = true;
        hasImage = false;
        planner.ready = false;
        return told.players;
    }

    public int rule(int what) {
        if (!hasLeague || what < 0) {
            return HIDDEN;
        }
        if (what < PLACES) {
            return told.slots[what];
        }
        if (what < PLACES + RULES) {
            return told.rules[what - PLACES];
        }
        if (what == 10) {
            return told.players;
        }
        return what == 11 ? told.size : HIDDEN;
    }

    public int player(int i, int what) throws NoSuchElementException {
        if (!isPlayer(i) || what < 0 || what > 5) {
            throw new NoSuchElementException();
        }
        switch (what) {
            case 0:
                return told.places[i];
            case 1:
                return told.clubs[i];
            case 2:
                return told.prices[season.played][i];
            case 3:
                return season.owns(i) ? season.bought[i] : NONE;
            case 4:
                return season.owns(i) ? season.brings(i, told.prices[season.played][i]) : NONE;
            default:
                return told.pointsFrom(i, 0);
        }
    }

    public int points(int i, int week) {
        return isPlayer(i) && isWeek(week) ? told.points[week][i] : HIDDEN;
    }

    // ---- the team that is owned ----

    public int now(int what) {
        if (!season.begun) {
            return HIDDEN;
        }
        switch (what) {
            case 0:
                return season.money;
            case 1:
                return season.worth(told.prices[season.played]);
            case 2:
                return season.played;
            case 3:
                return season.free;
            case 4:
                return season.swaps;
            case 5:
                return season.captain;
            case 6:
                return season.owned;
            case 7:
                return season.chips;
            case 8:
                return season.chip;
            case 9:
                return season.scores;
            case 10:
                return season.lent;
            default:
                return HIDDEN;
        }
    }

    public int begin(int team) {
        int why = whyNotBegin(team);
        if (why != FINE) {
            return refuse(why);
        }
        keepAct();
        season.open(team, told);
        return season.money;
    }

    private int whyNotBegin(int set) {
        if (!hasLeague || season.begun) {
            return NOT_NOW;
        }
        if (!told.knows(set)) {
            return UNKNOWN;
        }
        if (!told.isTeam(set)) {
            return NO_TEAM;
        }
        return told.priceOf(set, 0) > told.rules[LID] ? NO_MONEY : FINE;
    }

    public int swap(int sold, int bought) {
        int why = whyNotSwap(sold, bought);
        if (why != FINE) {
            return refuse(why);
        }
        keepAct();
        season.exchange(sold, bought, told.prices[season.played]);
        return season.money;
    }

    private int whyNotSwap(int sold, int bought) {
        if (!inPlay()) {
            return NOT_NOW;
        }
        if (!season.owns(sold) || !told.hasPlayer(bought) || season.owns(bought)) {
            return UNKNOWN;
        }
        if (season.chip == LOAN) {
            return NO_CHIP;
        }
        if (!told.isTeam(season.owned ^ (1 << sold) ^ (1 << bought))) {
            return NO_TEAM;
        }
        int[] prices = told.prices[season.played];
        return season.money + season.brings(sold, prices[sold]) < prices[bought] ? NO_MONEY : FINE;
    }

    public int captain(int i) {
        if (!inPlay()) {
            return refuse(NOT_NOW);
        }
        if (!season.owns(i) || season.captain == i) {
            return refuse(UNKNOWN);
        }
        keepAct();
        int before = season.captain;
        season.captain = i;
        return before;
    }

    public int chip(int which) {
        if (!inPlay()) {
            return refuse(NOT_NOW);
        }
        if (which != TRIPLE && which != WILD) {
            return refuse(UNKNOWN);
        }
        if (!season.chipIsFree(which)) {
            return refuse(NO_CHIP);
        }
        keepAct();
        season.play(which);
        return CHIPS - Integer.bitCount(season.chips);
    }

    public int loan(int team) {
        int why = whyNotLoan(team);
        if (why != FINE) {
            return refuse(why);
        }
        keepAct();
        season.play(LOAN);
        season.lent = team;
        return told.topPlayer(team, season.played);
    }

    private int whyNotLoan(int set) {
        if (!inPlay()) {
            return NOT_NOW;
        }
        if (!told.knows(set)) {
            return UNKNOWN;
        }
        if (!season.chipIsFree(LOAN) || season.swaps > 0) {
            return NO_CHIP;
        }
        if (!told.isTeam(set)) {
            return NO_TEAM;
        }
        int worth = season.worth(told.prices[season.played]);
        return told.priceOf(set, season.played) > worth ? NO_MONEY : FINE;
    }

    public int week() {
        if (!inPlay()) {
            refuse(NOT_NOW);
            return HIDDEN;
        }
        keepAct();
        return season.playWeek(told);
    }

    public int tale(int week, int what) {
        if (!wasPlayed(week) || what < 0 || what >= TALE_WORDS) {
            return HIDDEN;
        }
        return season.tales[week][what];
    }

    // ---- sets and the table of teams ----

    public int team(int set) {
        if (!hasLeague) {
            return NONE;
        }
        if (!told.knows(set)) {
            return 1;
        }
        if (!told.fillsSlots(set)) {
            return 2;
        }
        return told.keepsClubs(set) ? 0 : 3;
    }

    public int price(int set) {
        return hasLeague && told.knows(set) ? told.priceOf(set, season.played) : NONE;
    }

    public int teams(int l) {
        if (!hasLeague || l < 0) {
            return NONE;
        }
        table.priceFor(season.played);
        return table.sizeUnder(l, 0);
    }

    public int held(int l, int i, int j) {
        if (l < 0 || !isPlayer(i) || !isPlayer(j)) {
            return NONE;
        }
        table.priceFor(season.played);
        return table.sizeUnder(l, (1 << i) | (1 << j));
    }

    public int best(int week, int l, int what) {
        if (!isWeek(week) || what < 0 || what > 2) {
            return HIDDEN;
        }
        int found = bestNow(week, l);
        if (found == NONE) {
            return HIDDEN;
        }
        if (what == 0) {
            return table.scores[found];
        }
        int set = table.sets[found];
        return what == 1 ? set : told.topPlayer(set, week);
    }

    public int must(int week, int l) {
        int found = isWeek(week) ? bestNow(week, l) : NONE;
        return found == NONE ? HIDDEN : table.sharedBy(l, table.scores[found]);
    }

    private int bestNow(int week, int l) {
        table.priceFor(season.played);
        table.scoreFor(week);
        return table.bestUnder(l);
    }

    public int least(int week, int s) {
        if (!isWeek(week)) {
            return NONE;
        }
        table.priceFor(season.played);
        table.scoreFor(week);
        return table.leastFor(s);
    }

    public int stairs(int week, int i, int what) {
        if (!isWeek(week) || i < NONE || (i != NONE && what != 0 && what != 1)) {
            return HIDDEN;
        }
        table.priceFor(season.played);
        table.scoreFor(week);
        if (i == NONE) {
            return table.climb(TEAMS_MAX);
        }
        if (table.climb(i + 1L) != i + 1L) {
            return HIDDEN;
        }
        return what == 0 ? table.stairPrice : table.stairScore;
    }

    public int steady(int l, int what) {
        if (!weeksAreLeft() || (what != 0 && what != 1)) {
            return HIDDEN;
        }
        table.priceFor(season.played);
        int found = table.steadiest(l, season.played);
        if (found == NONE) {
            return HIDDEN;
        }
        return what == 0 ? table.steadyScore : table.sets[found];
    }

    public int apart(int one, int other, int week, int what) {
        if (!isWeek(week) || !told.knows(one) || !told.knows(other)) {
            return HIDDEN;
        }
        if (what == 0) {
            return told.pointsOf(one & ~other, week);
        }
        return what == 1 ? told.pointsOf(other & ~one, week) : HIDDEN;
    }

    public int regret(int week) {
        if (!wasPlayed(week)) {
            return HIDDEN;
        }
        int[] then = season.tales[week];
        table.priceFor(week);
        table.scoreFor(week);
        int found = table.bestUnder(then[5]);
        return found == NONE ? 0 : table.scores[found] - then[0];
    }

    // ---- players among one another ----

    public int outdone(int i) {
        return weeksAreLeft() && told.hasPlayer(i) ? told.whoOutdoes(i, season.played) : NONE;
    }

    public int weight(int i, int what) {
        if (!isPlayer(i) || (what != 0 && what != 1)) {
            return HIDDEN;
        }
        int above = told.pointsFrom(i, 0);
        int below = told.prices[season.played][i];
        int shared = greatestDivisor(Math.abs(above), below);
        if (shared == 0) {
            return HIDDEN;
        }
        return what == 0 ? above / shared : below / shared;
    }

    private static int greatestDivisor(int one, int other) {
        int a = one;
        int b = other;
        // Each turn makes b smaller, and it is a price at first.
        for (int turn = 0; turn <= PRICE_MAX && b != 0; turn++) {
            int rest = a % b;
            a = b;
            b = rest;
        }
        return a;
    }

    public int most(int what) {
        if (!hasLeague) {
            return NONE;
        }
        switch (what) {
            case 0:
                return told.mostPoints();
            case 1:
                return told.mostPrice(season.played);
            case 2:
                return told.mostWeight(season.played);
            case 3:
                return weeksAreLeft() ? told.outdoneAtAll(season.played) : NONE;
            case 4:
                return told.greatestClub();
            case 5:
                return told.richestWeek();
            default:
                return NONE;
        }
    }

    // ---- what is to come ----

    public int bestSwap(int what) {
        if (!inPlay() || what < 0 || what > 2 || !search.findOne(told, season)) {
            return HIDDEN;
        }
        return what == 2 ? search.gain : search.row[what];
    }

    public int twoSwaps(int what) {
        if (!inPlay() || what < 0 || what > 4 || !search.findTwo(told, season)) {
            return HIDDEN;
        }
        return what == 4 ? search.gain : search.row[what];
    }

    public int plan(int what) {
        if (!inPlay()) {
            return HIDDEN;
        }
        boolean asksTeam = isToCome(what - 10L);
        boolean asksChip = isToCome(what - 20L);
        if (what != 0 && what != 1 && !asksTeam && !asksChip) {
            return HIDDEN;
        }
        if (!planner.ready) {
            table.priceFor(season.played);
            planner.make(told, season, table);
        }
        if (what == 1) {
            return planner.choices;
        }
        if (!planner.hasPlan()) {
            return planner.choices > 0 ? -2 : -3;
        }
        if (what == 0) {
            return planner.total;
        }
        return asksTeam ? planner.rowSets[what - 10] : planner.rowChips[what - 20];
    }

    private boolean isToCome(long week) {
        return week >= season.played && week < told.rules[WEEKS];
    }

    public int priceThen(int i, int week) {
        return isPlayer(i) && isWeek(week) ? told.prices[week + 1][i] : NONE;
    }

    public int worthThen(int week) {
        if (!season.begun || !isWeek(week) || week < season.played) {
            return HIDDEN;
        }
        return season.worth(told.prices[week + 1]);
    }

    // ---- rivals ----

    public int rival(long seed, int what) {
        if (!hasLeague || (what != 0 && what != 1)) {
            return HIDDEN;
        }
        int set = table.draw(seed);
        if (set == NONE) {
            return HIDDEN;
        }
        return what == 0 ? told.scoreOfAllWeeks(set) : set;
    }

    public int ahead(long from, int n) {
        if (!season.begun || n < 1 || n > DRAWS_MAX) {
            return NONE;
        }
        int better = 0;
        for (int k = 0; k < n; k++) {
            int set = table.draw(from + k);
            if (set == NONE) {
                return NONE;
            }
            if (told.scoreOfAllWeeks(set) > season.scores) {
                better++;
            }
        }
        return better;
    }

    // ---- acts, the image, counts ----

    public int undo() {
        if (history.size < 1) {
            return NONE;
        }
        history.takeBack(season);
        planner.ready = false;
        return history.size;
    }

    public int image() {
        if (!hasLeague) {
            return NONE;
        }
        kept.copy(season);
        hasImage = true;
        return season.played;
    }

    public int back() {
        if (!hasImage) {
            return NONE;
        }
        season.copy(kept);
        history.size = 0;
        planner.ready = false;
        return season.played;
    }

    public int status(int what) {
        return what >= 0 && what < REASONS ? refused[what] : NONE;
    }

    public int count(int what) {
        if (what == 0) {
            return tape.length;
        }
        return what == 1 ? history.size : NONE;
    }

    private int refuse(int why) {
        if (why >= 0 && why < REASONS) {
            refused[why]++;
        }
        return NONE;
    }

    private void keepAct() {
        history.add(season);
        planner.ready = false;
    }

    private boolean isPlayer(int i) {
        return hasLeague && told.hasPlayer(i);
    }

    private boolean isWeek(int week) {
        return hasLeague && told.hasWeek(week);
    }

    private boolean weeksAreLeft() {
        return isWeek(season.played);
    }

    private boolean inPlay() {
        return season.begun && weeksAreLeft();
    }

    private boolean wasPlayed(int week) {
        return isWeek(week) && week < season.played;
    }

    /** The bytes that were fed and not yet made a league. */
    private static final class Tape {
        final int[] bytes = new int[TAPE_MAX];
        int length;

        static int bytesIn(int four) {
            int found = 0;
            for (int shift = 24; shift >= 0; shift -= 8) {
                if (((four >>> shift) & 255) != 0) {
                    found++;
                }
            }
            return found;
        }

        void take(int four) {
            for (int shift = 24; shift >= 0; shift -= 8) {
                int one = (four >>> shift) & 255;
                if (one != 0 && length < TAPE_MAX) {
                    bytes[length] = one;
                    length++;
                }
            }
        }

        int byteAt(int i) {
            return i >= 0 && i < length ? bytes[i] : 0;
        }

        boolean hasLetterAt(int i) {
            int one = byteAt(i);
            return one >= 'a' && one <= 'z';
        }

        boolean hasDigitAt(int i) {
            int one = byteAt(i);
            return one >= '0' && one <= '9';
        }
    }

    /**
     * Reads the tape part by part into a league. A step that answers false has
     * stopped at the part that can't stand there, so its start is the fault.
     */
    private static final class Reader {
        private static final int THE_END = 0;
        private static final int WORD = 1;
        private static final int NUMBER = 2;
        private static final int SIGN = 3;
        private static final int DIGITS_MAX = 3;

        private static final int[] RULE_DIGITS = {3, 1, 1, 1, 3, 3};
        private static final int[] RULE_LOW = {1, 1, 1, 0, 1, 0};
        private static final int[] RULE_HIGH = {599, 6, 6, 9, 99, 99};

        final Tape tape;
        League into;
        int rulesSeen;
        int kind;
        int start;
        int next;
        int value;

        Reader(Tape tape) {
            this.tape = tape;
        }

        int read(League empty) {
            into = empty;
            into.clear();
            rulesSeen = 0;
            next = 0;
            return readSlots() && readLines() ? NONE : start;
        }

        private boolean readSlots() {
            step();
            if (!isWord("slots")) {
                return false;
            }
            for (int place = 0; place < PLACES; place++) {
                step();
                if (!isNumber(1, 0, 3)) {
                    return false;
                }
                into.slots[place] = value;
                into.size += value;
            }
            return into.size >= 1 && into.size <= SIZE_MAX;
        }

        private boolean readLines() {
            for (int line = 0; line < TAPE_MAX; line++) {
                step();
                if (kind == THE_END) {
                    return into.players > 0;
                }
                if (!isSign(';')) {
                    return false;
                }
                step();
                if (!readLine()) {
                    return false;
                }
            }
            return false;
        }

        private boolean readLine() {
            int rule = ruleNamed();
            if (rule != NONE) {
                return readRule(rule);
            }
            int place = placeNamed();
            return place != NONE && into.players < PLAYER_MAX && readPlayer(place);
        }

        private boolean readRule(int rule) {
            int bit = 1 << rule;
            if (into.players > 0 || (rulesSeen & bit) != 0) {
                return false;
            }
            step();
            if (!isNumber(RULE_DIGITS[rule], RULE_LOW[rule], RULE_HIGH[rule])) {
                return false;
            }
            rulesSeen |= bit;
            into.rules[rule] = value;
            return true;
        }

        private boolean readPlayer(int place) {
            int i = into.players;
            into.places[i] = place;
            step();
            int club = clubNamed();
            if (club == NONE) {
                return false;
            }
            into.clubs[i] = club;
            step();
            if (!isNumber(DIGITS_MAX, 1, PRICE_MAX)) {
                return false;
            }
            into.prices[0][i] = value;
            for (int week = 0; week < into.rules[WEEKS] && week < WEEK_MAX; week++) {
                if (!readPoints()) {
                    return false;
                }
                into.points[week][i] = value;
            }
            into.players++;
            return true;
        }

        private boolean readPoints() {
            step();
            boolean below = isSign('-');
            if (below) {
                step();
            }
            if (!isNumber(DIGITS_MAX, 0, 99)) {
                return false;
            }
            value = below ? -value : value;
            return true;
        }

        private void step() {
            while (next < tape.length && tape.byteAt(next) == ' ') {
                next++;
            }
            start = next;
            if (next >= tape.length) {
                kind = THE_END;
            } else if (tape.hasLetterAt(next)) {
                kind = WORD;
                stepOverLetters();
            } else if (tape.hasDigitAt(next)) {
                kind = NUMBER;
                stepOverDigits();
            } else {
                kind = SIGN;
                next++;
            }
        }

        private void stepOverLetters() {
            while (next < tape.length && tape.hasLetterAt(next)) {
                next++;
            }
        }

        private void stepOverDigits() {
            value = 0;
            while (next < tape.length && tape.hasDigitAt(next)) {
                // A number of more digits is a fault whatever it tells, so it needn't grow.
                if (next - start < DIGITS_MAX) {
                    value = value * 10 + tape.byteAt(next) - '0';
                }
                next++;
            }
        }

        private boolean isNumber(int digits, int low, int high) {
            return kind == NUMBER && next - start <= digits && value >= low && value <= high;
        }

        private boolean isSign(int one) {
            return kind == SIGN && tape.byteAt(start) == one;
        }

        private boolean isWord(String word) {
            if (kind != WORD || next - start != word.length()) {
                return false;
            }
            for (int i = 0; i < word.length(); i++) {
                if (tape.byteAt(start + i) != word.charAt(i)) {
                    return false;
                }
            }
            return true;
        }

        private int ruleNamed() {
            for (int rule = 0; rule < RULES; rule++) {
                if (isWord(ruleWord(rule))) {
                    return rule;
                }
            }
            return NONE;
        }

        private static String ruleWord(int rule) {
            switch (rule) {
                case LID:
                    return "lid";
                case CLUB:
                    return "club";
                case WEEKS:
                    return "weeks";
                case COST:
                    return "cost";
                case RISE:
                    return "rise";
                default:
                    return "fall";
            }
        }

        private int placeNamed() {
            if (kind != WORD || next - start != 1) {
                return NONE;
            }
            switch (tape.byteAt(start)) {
                case 'k':
                    return 0;
                case 'b':
                    return 1;
                case 'm':
                    return 2;
                case 'f':
                    return 3;
                default:
                    return NONE;
            }
        }

        private int clubNamed() {
            if (kind != WORD || next - start != 1) {
                return NONE;
            }
            int club = tape.byteAt(start) - 'a';
            return club < CLUBS ? club : NONE;
        }
    }

    /** What a text tells, and all that follows from it whatever is played. */
    private static final class League {
        final int[] slots = new int[PLACES];
        final int[] rules = new int[RULES];
        final int[] places = new int[PLAYER_MAX];
        final int[] clubs = new int[PLAYER_MAX];
        final int[] placeSets = new int[PLACES];
        final int[] clubSets = new int[CLUBS];
        final int[][] points = new int[WEEK_MAX][PLAYER_MAX];
        // Points alone move prices, so row w has those ahead of week w in every season.
        final int[][] prices = new int[WEEK_MAX + 1][PLAYER_MAX];
        int players;
        int size;

        void clear() {
            rules[LID] = 99;
            rules[CLUB] = 6;
            rules[WEEKS] = 3;
            rules[COST] = 4;
            rules[RISE] = 9;
            rules[FALL] = 1;
            players = 0;
            size = 0;
        }

        void complete() {
            Arrays.fill(placeSets, 0);
            Arrays.fill(clubSets, 0);
            for (int i = 0; i < players; i++) {
                placeSets[places[i]] |= 1 << i;
                clubSets[clubs[i]] |= 1 << i;
            }
            for (int week = 0; week < rules[WEEKS]; week++) {
                for (int i = 0; i < players; i++) {
                    prices[week + 1][i] = moved(prices[week][i], points[week][i]);
                }
            }
        }

        private int moved(int price, int by) {
            if (by >= rules[RISE]) {
                return Math.min(PRICE_MAX, price + 1);
            }
            return by <= rules[FALL] ? Math.max(1, price - 1) : price;
        }

        boolean hasPlayer(int i) {
            return i >= 0 && i < players;
        }

        boolean hasWeek(int week) {
            return week >= 0 && week < rules[WEEKS];
        }

        boolean knows(int set) {
            return set >= 0 && set >> players == 0;
        }

        boolean isTeam(int set) {
            return fillsSlots(set) && keepsClubs(set);
        }

        boolean fillsSlots(int set) {
            for (int place = 0; place < PLACES; place++) {
                if (Integer.bitCount(set & placeSets[place]) != slots[place]) {
                    return false;
                }
            }
            return true;
        }

        boolean keepsClubs(int set) {
            for (int club = 0; club < CLUBS; club++) {
                if (Integer.bitCount(set & clubSets[club]) > rules[CLUB]) {
                    return false;
                }
            }
            return true;
        }

        int priceOf(int set, int week) {
            return sumOf(set, prices[week]);
        }

        int pointsOf(int set, int week) {
            return sumOf(set, points[week]);
        }

        private int sumOf(int set, int[] row) {
            int sum = 0;
            int rest = set;
            for (int i = 0; i < players && rest != 0; i++) {
                if ((rest & 1) != 0) {
                    sum += row[i];
                }
                rest >>= 1;
            }
            return sum;
        }

        /** The lowest of those in a set with the most points of a week. */
        int topPlayer(int set, int week) {
            int top = NONE;
            for (int i = 0; i < players; i++) {
                if ((set >> i & 1) != 0 && (top == NONE || points[week][i] > points[week][top])) {
                    top = i;
                }
            }
            return top;
        }

        /** Points of a team in a week, its best captain's once more. */
        int scoreOf(int set, int week) {
            int[] row = points[week];
            int sum = 0;
            int top = set == 0 ? 0 : LOW;
            int rest = set;
            for (int i = 0; i < players && rest != 0; i++) {
                if ((rest & 1) != 0) {
                    sum += row[i];
                    top = row[i] > top ? row[i] : top;
                }
                rest >>= 1;
            }
            return sum + top;
        }

        int scoreOfAllWeeks(int set) {
            int sum = 0;
            for (int week = 0; week < rules[WEEKS]; week++) {
                sum += scoreOf(set, week);
            }
            return sum;
        }

        int pointsFrom(int i, int first) {
            int sum = 0;
            for (int week = first; week < rules[WEEKS]; week++) {
                sum += points[week][i];
            }
            return sum;
        }

        int whoOutdoes(int i, int first) {
            for (int other = 0; other < players; other++) {
                if (other != i && outdoes(other, i, first)) {
                    return other;
                }
            }
            return NONE;
        }

        private boolean outdoes(int one, int other, int first) {
            int[] row = prices[first];
            if (places[one] != places[other] || row[one] > row[other]) {
                return false;
            }
            boolean better = row[one] < row[other];
            for (int week = first; week < rules[WEEKS]; week++) {
                int more = points[week][one] - points[week][other];
                if (more < 0) {
                    return false;
                }
                better |= more > 0;
            }
            return better || one < other;
        }

        int outdoneAtAll(int first) {
            int found = 0;
            for (int i = 0; i < players; i++) {
                if (whoOutdoes(i, first) != NONE) {
                    found++;
                }
            }
            return found;
        }

        int mostPoints() {
            int top = 0;
            for (int i = 1; i < players; i++) {
                if (pointsFrom(i, 0) > pointsFrom(top, 0)) {
                    top = i;
                }
            }
            return top;
        }

        int mostPrice(int week) {
            int top = 0;
            for (int i = 1; i < players; i++) {
                if (prices[week][i] > prices[week][top]) {
                    top = i;
                }
            }
            return top;
        }

        int mostWeight(int week) {
            int top = 0;
            for (int i = 1; i < players; i++) {
                // Prices are above 0, so fractions are compared without dividing.
                if (pointsFrom(i, 0) * prices[week][top] > pointsFrom(top, 0) * prices[week][i]) {
                    top = i;
                }
            }
            return top;
        }

        int greatestClub() {
            int top = 0;
            for (int club = 1; club < CLUBS; club++) {
                if (Integer.bitCount(clubSets[club]) > Integer.bitCount(clubSets[top])) {
                    top = club;
                }
            }
            return top;
        }

        int richestWeek() {
            int everyone = (1 << players) - 1;
            int top = 0;
            for (int week = 1; week < rules[WEEKS]; week++) {
                if (pointsOf(everyone, week) > pointsOf(everyone, top)) {
                    top = week;
                }
            }
            return top;
        }
    }

    /** All teams of a league, as bits rising, with one row of prices and one of scores. */
    private static final class TeamTable {
        private static final long FACTOR = 6364136223846793005L;
        private static final long ADDEND = 1442695040888963407L;
        private static final int BEYOND = 1 << PLAYER_MAX;

        // Long rows: an object that never has a league goes without them.
        int[] sets = new int[0];
        int[] prices = new int[0];
        int[] scores = new int[0];
        int[] drawable = new int[0];
        int[] bestAt = new int[0];
        League league;
        int size;
        int drawableSize;
        int pricedWeek;
        int scoredWeek;
        int stairPrice;
        int stairScore;
        int steadyScore;

        private void makeRows() {
            if (sets.length < TEAMS_MAX) {
                sets = new int[TEAMS_MAX];
                prices = new int[TEAMS_MAX];
                scores = new int[TEAMS_MAX];
                drawable = new int[TEAMS_MAX];
                bestAt = new int[PRICES_MAX + 1];
            }
        }

        void build(League of) {
            makeRows();
            league = of;
            size = 0;
            drawableSize = 0;
            pricedWeek = NONE;
            scoredWeek = NONE;
            int end = 1 << of.players;
            int set = (1 << of.size) - 1;
            for (int turn = 0; turn < end && set < end; turn++) {
                if (of.isTeam(set)) {
                    addTeam(set);
                }
                set = nextOfSameSize(set);
            }
        }

        private void addTeam(int set) {
            if (size >= TEAMS_MAX) {
                return;
            }
            sets[size] = set;
            size++;
            if (league.priceOf(set, 0) <= league.rules[LID]) {
                drawable[drawableSize] = set;
                drawableSize++;
            }
        }

        /** The next greater number with as many bits: its lowest run of ones moves on. */
        private static int nextOfSameSize(int set) {
            int lowest = set & -set;
            if (lowest == 0) {
                return BEYOND;
            }
            int carried = set + lowest;
            return carried | ((set ^ carried) / lowest) >> 2;
        }

        void priceFor(int week) {
            if (pricedWeek == week) {
                return;
            }
            for (int k = 0; k < size; k++) {
                prices[k] = league.priceOf(sets[k], week);
            }
            pricedWeek = week;
        }

        void scoreFor(int week) {
            if (scoredWeek == week) {
                return;
            }
            for (int k = 0; k < size; k++) {
                scores[k] = league.scoreOf(sets[k], week);
            }
            scoredWeek = week;
        }

        int sizeUnder(int l, int wanted) {
            int found = 0;
            for (int k = 0; k < size; k++) {
                if (prices[k] <= l && (sets[k] & wanted) == wanted) {
                    found++;
                }
            }
            return found;
        }

        int bestUnder(int l) {
            int found = NONE;
            for (int k = 0; k < size; k++) {
                if (prices[k] <= l && (found == NONE || scores[k] > scores[found])) {
                    found = k;
                }
            }
            return found;
        }

        int sharedBy(int l, int score) {
            int shared = -1;
            for (int k = 0; k < size; k++) {
                if (prices[k] <= l && scores[k] == score) {
                    shared &= sets[k];
                }
            }
            return shared;
        }

        int leastFor(int score) {
            int found = NONE;
            for (int k = 0; k < size; k++) {
                if (scores[k] >= score && (found == NONE || prices[k] < found)) {
                    found = prices[k];
                }
            }
            return found;
        }

        /** Goes up at most so many stairs, keeps the last one: how many there were. */
        int climb(long most) {
            Arrays.fill(bestAt, LOW);
            for (int k = 0; k < size; k++) {
                int price = prices[k];
                if (price >= 0 && price <= PRICES_MAX && scores[k] > bestAt[price]) {
                    bestAt[price] = scores[k];
                }
            }
            int found = 0;
            stairScore = LOW;
            for (int price = 0; price <= PRICES_MAX && found < most; price++) {
                if (bestAt[price] > stairScore) {
                    stairScore = bestAt[price];
                    stairPrice = price;
                    found++;
                }
            }
            return found;
        }

        int steadiest(int l, int first) {
            int found = NONE;
            steadyScore = LOW;
            for (int k = 0; k < size; k++) {
                int worst = prices[k] <= l ? leastScore(sets[k], first, steadyScore) : LOW;
                if (worst > steadyScore) {
                    steadyScore = worst;
                    found = k;
                }
            }
            return found;
        }

        /** A team that is no better than what is known already needn't be looked at to its end. */
        private int leastScore(int set, int first, int known) {
            int worst = league.scoreOf(set, first);
            for (int week = first + 1; week < league.rules[WEEKS] && worst > known; week++) {
                worst = Math.min(worst, league.scoreOf(set, week));
            }
            return worst;
        }

        int draw(long seed) {
            if (drawableSize < 1) {
                return NONE;
            }
            long drawn = seed * FACTOR + ADDEND;
            return drawable[(int) ((drawn >>> 33) % drawableSize)];
        }
    }

    /** All that acts change. */
    private static final class Season {
        final int[] bought = new int[PLAYER_MAX];
        final int[][] tales = new int[WEEK_MAX][TALE_WORDS];
        boolean begun;
        int money;
        int played;
        int free;
        int swaps;
        int captain;
        int owned;
        int chips;
        int chip;
        int scores;
        int lent;

        void clear() {
            begun = false;
            money = 0;
            played = 0;
            free = 0;
            swaps = 0;
            captain = NONE;
            owned = 0;
            chips = 0;
            chip = NONE;
            scores = 0;
            lent = 0;
        }

        void copy(Season from) {
            begun = from.begun;
            money = from.money;
            played = from.played;
            free = from.free;
            swaps = from.swaps;
            captain = from.captain;
            owned = from.owned;
            chips = from.chips;
            chip = from.chip;
            scores = from.scores;
            lent = from.lent;
            System.arraycopy(from.bought, 0, bought, 0, PLAYER_MAX);
            for (int week = 0; week < WEEK_MAX; week++) {
                System.arraycopy(from.tales[week], 0, tales[week], 0, TALE_WORDS);
            }
        }

        void open(int team, League league) {
            clear();
            begun = true;
            owned = team;
            free = 1;
            money = league.rules[LID] - league.priceOf(team, 0);
            for (int i = league.players - 1; i >= 0; i--) {
                if (owns(i)) {
                    bought[i] = league.prices[0][i];
                    captain = i;
                }
            }
        }

        boolean owns(int i) {
            return i >= 0 && i < PLAYER_MAX && (owned >> i & 1) != 0;
        }

        int brings(int i, int price) {
            int paid = bought[i];
            return price <= paid ? price : paid + (price - paid) / 2;
        }

        int worth(int[] prices) {
            int sum = money;
            for (int i = 0; i < PLAYER_MAX; i++) {
                if (owns(i)) {
                    sum += brings(i, prices[i]);
                }
            }
            return sum;
        }

        void exchange(int sold, int next, int[] prices) {
            money += brings(sold, prices[sold]) - prices[next];
            owned ^= (1 << sold) ^ (1 << next);
            bought[next] = prices[next];
            swaps++;
            if (captain == sold) {
                captain = next;
            }
        }

        boolean chipIsFree(int which) {
            return chip == NONE && (chips >> which & 1) == 0;
        }

        void play(int which) {
            chips |= 1 << which;
            chip = which;
        }

        int playWeek(League league) {
            boolean onLoan = chip == LOAN;
            int team = onLoan ? lent : owned;
            int head = onLoan ? league.topPlayer(team, played) : captain;
            int score = league.pointsOf(team, played) - swapsPaid() * league.rules[COST];
            if (league.hasPlayer(head)) {
                score += (chip == TRIPLE ? 2 : 1) * league.points[played][head];
            }
            tell(score, team, head, worth(league.prices[played]));
            free = Math.min(FREE_MAX, Math.max(0, free - swapsOfFree()) + 1);
            scores += score;
            played++;
            swaps = 0;
            chip = NONE;
            lent = 0;
            return score;
        }

        private int swapsPaid() {
            return Math.max(0, swapsOfFree() - free);
        }

        /** Swaps that take from the free ones, or cost when none is left. */
        private int swapsOfFree() {
            return chip == WILD || chip == LOAN ? 0 : swaps;
        }

        private void tell(int score, int team, int head, int worth) {
            int[] row = tales[played];
            row[0] = score;
            row[1] = team;
            row[2] = head;
            row[3] = chip;
            row[4] = swaps;
            row[5] = worth;
        }
    }

    /** Seasons as they were ahead of the latest acts, in a ring. */
    private static final class History {
        final Season[] ring = new Season[ACTS_MAX];
        int next;
        int size;

        History() {
            for (int k = 0; k < ACTS_MAX; k++) {
                ring[k] = new Season();
            }
        }

        void add(Season season) {
            ring[next].copy(season);
            next = (next + 1) % ACTS_MAX;
            size = Math.min(ACTS_MAX, size + 1);
        }

        void takeBack(Season season) {
            next = (next + ACTS_MAX - 1) % ACTS_MAX;
            season.copy(ring[next]);
            size--;
        }
    }

    /** Looks for the best swap, or the best two; only a better row takes the place of one that was found. */
    private static final class SwapSearch {
        final int[] row = new int[4];
        final int[] gains = new int[PLAYER_MAX];
        League league;
        Season season;
        int[] prices;
        int gain;
        boolean found;

        boolean findOne(League of, Season at) {
            start(of, at);
            for (int sold = 0; sold < of.players; sold++) {
                int money = at.money + bringsNow(sold, NONE);
                for (int next = 0; next < of.players; next++) {
                    if (canFollow(at.owned, money, sold, next)) {
                        weigh(sold, next, NONE, NONE);
                    }
                }
            }
            return found;
        }

        boolean findTwo(League of, Season at) {
            start(of, at);
            for (int sold = 0; sold < of.players; sold++) {
                int money = at.money + bringsNow(sold, NONE);
                for (int next = 0; next < of.players; next++) {
                    if (canFollow(at.owned, money, sold, next)) {
                        findSecond(sold, next, money - prices[next]);
                    }
                }
            }
            return found;
        }

        private void findSecond(int firstSold, int firstBought, int left) {
            int team = season.owned ^ (1 << firstSold) ^ (1 << firstBought);
            for (int sold = 0; sold < league.players; sold++) {
                int money = left + bringsNow(sold, firstBought);
                for (int next = 0; next < league.players; next++) {
                    if (canFollow(team, money, sold, next)) {
                        weigh(firstSold, firstBought, sold, next);
                    }
                }
            }
        }

        private void start(League of, Season at) {
            league = of;
            season = at;
            prices = of.prices[at.played];
            found = false;
            gain = 0;
            for (int i = 0; i < of.players; i++) {
                gains[i] = of.pointsFrom(i, at.played);
            }
        }

        /** One that was just bought is sold for what it cost. */
        private int bringsNow(int i, int justBought) {
            return i == justBought ? prices[i] : season.brings(i, prices[i]);
        }

        private boolean canFollow(int team, int money, int sold, int next) {
            return season.chip != LOAN
                && (team >> sold & 1) != 0
                && (team >> next & 1) == 0
                && league.places[sold] == league.places[next]
                && prices[next] <= money
                && league.keepsClubs(team ^ (1 << sold) ^ (1 << next));
        }

        private void weigh(int sold, int next, int soldSecond, int nextSecond) {
            int more = gains[next] - gains[sold];
            if (soldSecond != NONE && nextSecond != NONE) {
                more += gains[nextSecond] - gains[soldSecond];
            }
            if (found && more <= gain) {
                return;
            }
            found = true;
            gain = more;
            row[0] = sold;
            row[1] = next;
            row[2] = soldSecond;
            row[3] = nextSecond;
        }
    }

    /**
     * The plan. What is to come depends on the week, the team ahead, the free swaps
     * and the chips played alone: values has the most that can still be got from each such point.
     */
    private static final class Planner {
        private static final int CHOICES_MAX = 40;
        private static final int ROWS_MAX = CHOICES_MAX + 1;
        private static final int CHIP_SETS = 8;
        private static final int WEEK_VALUES = ROWS_MAX * FREE_MAX * CHIP_SETS;

        // One row more than there are choices: the team owned may be too dear to be one.
        int[] sets = new int[0];
        int[][] swaps = new int[0][0];
        int[][] plain = new int[0][0];
        int[][] tops = new int[0][0];
        int[] values = new int[0];
        final int[] richest = new int[WEEK_MAX];
        final int[] rowSets = new int[WEEK_MAX];
        final int[] rowChips = new int[WEEK_MAX];
        League league;
        Season season;
        boolean ready;
        int choices;
        int rows;
        int weeks;
        int total;
        int ahead;
        int free;
        int chips;

        boolean hasPlan() {
            return choices > 0 && choices <= CHOICES_MAX;
        }

        /** Long rows: an object that is never asked for a plan goes without them. */
        private void makeRows() {
            if (sets.length < ROWS_MAX) {
                sets = new int[ROWS_MAX];
                swaps = new int[ROWS_MAX][CHOICES_MAX];
                plain = new int[WEEK_MAX][CHOICES_MAX];
                tops = new int[WEEK_MAX][CHOICES_MAX];
                values = new int[(WEEK_MAX + 1) * WEEK_VALUES];
            }
        }

        /** The table must have its prices as now. */
        void make(League of, Season at, TeamTable table) {
            makeRows();
            league = of;
            season = at;
            weeks = of.rules[WEEKS];
            ready = true;
            choose(table, at.worth(of.prices[at.played]));
            if (!hasPlan()) {
                return;
            }
            setOwned();
            measure();
            clearEnd();
            for (int week = weeks - 1; week > at.played; week--) {
                valueWeek(week);
            }
            walk();
        }

        /** Behind the last week there is nothing more to get. */
        private void clearEnd() {
            int end = weeks * WEEK_VALUES;
            for (int k = 0; k < WEEK_VALUES; k++) {
                values[end + k] = 0;
            }
        }

        private void choose(TeamTable table, int worth) {
            choices = 0;
            for (int k = 0; k < table.size; k++) {
                if (table.prices[k] <= worth) {
                    if (choices < CHOICES_MAX) {
                        sets[choices] = table.sets[k];
                    }
                    choices++;
                }
            }
        }

        private void setOwned() {
            ahead = choices;
            for (int k = 0; k < choices; k++) {
                if (sets[k] == season.owned) {
                    ahead = k;
                }
            }
            sets[choices] = ahead == choices ? season.owned : 0;
            rows = ahead == choices ? choices + 1 : choices;
        }

        private void measure() {
            for (int row = 0; row < rows; row++) {
                for (int k = 0; k < choices; k++) {
                    swaps[row][k] = Integer.bitCount(sets[k] & ~sets[row]);
                }
            }
            for (int week = season.played; week < weeks; week++) {
                richest[week] = LOW;
                for (int k = 0; k < choices; k++) {
                    int sum = league.pointsOf(sets[k], week);
                    plain[week][k] = league.scoreOf(sets[k], week);
                    tops[week][k] = plain[week][k] - sum;
                    richest[week] = Math.max(richest[week], plain[week][k]);
                }
            }
        }

        private static int spot(int week, int row, int free, int chips) {
            return week * WEEK_VALUES + (row * FREE_MAX + free - 1) * CHIP_SETS + chips;
        }

        private void valueWeek(int week) {
            for (int set = 0; set < CHIP_SETS; set++) {
                if ((set & season.chips) != season.chips) {
                    continue;
                }
                int wild = (set >> WILD & 1) == 0 ? wildValue(week, set | 1 << WILD) : LOW;
                for (int row = 0; row < rows; row++) {
                    int other = Math.max(wild, loanValue(week, row, set));
                    for (int left = 1; left <= FREE_MAX; left++) {
                        values[spot(week, row, left, set)] = Math.max(other, swapValue(week, row, left, set));
                    }
                }
            }
        }

        /** No swap takes from the free ones then, so there are two behind it, whatever team was ahead. */
        private int wildValue(int week, int set) {
            int most = LOW;
            for (int k = 0; k < choices; k++) {
                most = Math.max(most, plain[week][k] + values[spot(week + 1, k, FREE_MAX, set)]);
            }
            return most;
        }

        private int loanValue(int week, int row, int set) {
            if ((set >> LOAN & 1) != 0) {
                return LOW;
            }
            return richest[week] + values[spot(week + 1, row, FREE_MAX, set | 1 << LOAN)];
        }

        /** With no chip, or with the captain counted thrice. */
        private int swapValue(int week, int row, int left, int set) {
            int[] needed = swaps[row];
            int[] scores = plain[week];
            int[] more = tops[week];
            int cost = league.rules[COST];
            boolean mayTriple = (set >> TRIPLE & 1) == 0;
            int most = LOW;
            for (int k = 0; k < choices; k++) {
                int used = needed[k];
                int then = spot(week + 1, k, freeBehind(left, used), set);
                int score = used > left ? scores[k] - (used - left) * cost : scores[k];
                int sum = score + values[then];
                most = sum > most ? sum : most;
                if (mayTriple) {
                    sum = score + more[k] + values[then + (1 << TRIPLE)];
                    most = sum > most ? sum : most;
                }
            }
            return most;
        }

        /** What is left of one or two, and one more, two at most. */
        private static int freeBehind(int left, int used) {
            return used < left ? FREE_MAX : 1;
        }

        private void walk() {
            free = season.free;
            chips = season.chips;
            for (int week = season.played; week < weeks; week++) {
                take(week);
            }
        }

        /** Teams rise as bits and chips from none on, so the first of several is the least. */
        private void take(int week) {
            int most = LOW;
            int team = 0;
            int chip = NONE;
            for (int k = 0; k < choices; k++) {
                for (int which = NONE; which < CHIPS; which++) {
                    int sum = mayTake(week, k, which) ? optionValue(week, k, which) : LOW;
                    if (sum > most) {
                        most = sum;
                        team = k;
                        chip = which;
                    }
                }
            }
            if (week == season.played) {
                total = most;
            }
            rowSets[week] = sets[team];
            rowChips[week] = chip;
            moveOn(week, team, chip);
        }

        private boolean mayTake(int week, int team, int which) {
            boolean first = week == season.played;
            if (first && season.chip != NONE) {
                return which == season.chip && (which != LOAN || sets[team] == season.lent);
            }
            if (which == NONE) {
                return true;
            }
            return (chips >> which & 1) == 0 && !(which == LOAN && first && season.swaps > 0);
        }

        private int optionValue(int week, int team, int which) {
            int used = swapsUsed(week, team, which);
            int score = plain[week][team] - Math.max(0, used - free) * league.rules[COST];
            if (which == TRIPLE) {
                score += tops[week][team];
            }
            int row = which == LOAN ? ahead : team;
            return score + values[spot(week + 1, row, freeBehind(free, used), chipsWith(which))];
        }

        private void moveOn(int week, int team, int which) {
            free = freeBehind(free, swapsUsed(week, team, which));
            chips = chipsWith(which);
            ahead = which == LOAN ? ahead : team;
        }

        private int swapsUsed(int week, int team, int which) {
            if (which == WILD || which == LOAN) {
                return 0;
            }
            return swaps[ahead][team] + (week == season.played ? season.swaps : 0);
        }

        private int chipsWith(int which) {
            return which == NONE ? chips : chips | 1 << which;
        }
    }
}
