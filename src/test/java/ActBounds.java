/** Promises 10 to 14, 37 to 40 and 42: the acts, when they are refused, and how they are undone. */
final class ActBounds {
    private static final int NONE = SalaryLid.NONE;
    private static final int HIDDEN = SalaryLid.HIDDEN;

    // Keepers 0 a 10, 1 b 12; backs 2 a 10, 3 b 11, 4 c 30. One of a club: 5, 10 and 24 hold but for the club of 5.
    private static final String FIVE = "slots 1 1 0 0;lid 22;club 1;weeks 3;k a 10 1 2 3;k b 12 4 4 4;b a 10 5 5 5;b b 11 2 7 2;b c 30 9 9 9";

    private static final String PAIR = "slots 1 0 0 0;lid 9;weeks 2;k a 5 1 2;k b 6 3 4;k c 9 8 8;k d 10 9 9";

    private ActBounds() {
    }

    static void run() {
        beginUnderTheLid();
        beginOwns();
        beginRefused();
        beginOrder();
        swapMoney();
        swapTeam();
        swapCaptain();
        swapRefused();
        swapOrder();
        captains();
        chipsOnce();
        chipRefused();
        oneChipAWeek();
        loanUnderWorth();
        loanCaptain();
        loanStays();
        loanAndSwaps();
        loanRefused();
        undoOfEach();
        undoTwelve();
        undoNone();
        images();
        imageRefused();
        backs();
        statusCounts();
        statusHidden();
        counts();
    }

    /** How many calls were refused for each reason since the object was made. */
    private static void refused(String when, SalaryLid x, int... want) {
        for (int what = 0; what < 5; what++) {
            Doc.due(when + ", status " + what, x.status(what), want[what]);
        }
    }

    private static SalaryLid owned(String text, int team) {
        SalaryLid x = Check.told(text);
        Doc.due("begun", x.begin(team) >= 0, true);
        return x;
    }

    private static void playOut(SalaryLid x) {
        for (int week = x.now(2); week < x.rule(6); week++) {
            x.week();
        }
    }

    // ---- promise 10 ----

    private static void beginUnderTheLid() {
        Doc.says(10, "BEGUN: a TEAM whose PRICES together are no more than the lid is owned");
        for (int lid = 20; lid <= 24; lid++) {
            SalaryLid x = Check.told("slots 1 1 0 0;lid " + lid + ";k a 10 1 1 1;b a 12 1 1 1");
            Doc.due("22 under the lid of " + lid, x.begin(3), lid < 22 ? NONE : lid - 22);
            refused("lid " + lid, x, 0, 0, lid < 22 ? 1 : 0, 0, 0);
            Doc.due("owned", x.now(6), lid < 22 ? HIDDEN : 3);
        }
        SalaryLid y = Check.told("slots 3 3 0 0;lid 594;weeks 1;k a99 1;k a99 1;k a99 1;b a99 1;b a99 1;b a99 1");
        Doc.due("the dearest team, just the lid", y.begin(63), 0);
        SalaryLid z = Check.told("slots 3 3 0 0;lid 593;weeks 1;k a99 1;k a99 1;k a99 1;b a99 1;b a99 1;b a99 1");
        Doc.due("the dearest team, one too much", z.begin(63), NONE);
        SalaryLid w = Check.told("slots 1 0 0 0;lid 1;weeks 1;k a1 1;k a2 1");
        Doc.due("2 under the lid of 1", w.begin(2), NONE);
        Doc.due("1 under the lid of 1", w.begin(1), 0);
    }

    private static void beginOwns() {
        Doc.says(10, "(each BOUGHT at its PRICE), MONEY is less by these; its captain is its lowest PLAYER.");
        SalaryLid x = Check.told("slots 1 2 0 0;lid 50;b a 9 9 9 9;b b 12 8 8 8;k c 13 1 1 1;b d 14 2 2 2");
        int[][] teams = {{7, 16, 0}, {13, 14, 0}, {14, 11, 1}};
        for (int[] team : teams) {
            Doc.due("money with " + team[0], x.begin(team[0]), team[1]);
            Doc.due("now", x.now(0), team[1]);
            Doc.due("captain of " + team[0], x.now(5), team[2]);
            int[] prices = {9, 12, 13, 14};
            for (int i = 0; i < 4; i++) {
                Doc.due("bought " + i, Check.player(x, i, 3), (team[0] >> i & 1) == 1 ? prices[i] : NONE);
            }
            x.undo();
        }
        Doc.says(10, "BEGUN with a TEAM: MONEY.");
        Doc.due("all of the lid", Check.told("slots 1 0 0 0;lid 9;k a 9 1 1 1").begin(1), 0);
        Doc.due("the most that is left", Check.told("slots 1 0 0 0;lid 599;k a 1 1 1 1").begin(1), 598);
    }

    private static void beginRefused() {
        Doc.says(10, "NONE (STATUS 0: also if BEGUN; 1: bits of no PLAYER, below 0; 3; 2; asked in this order).");
        SalaryLid x = new SalaryLid();
        Doc.due("no league", x.begin(6), NONE);
        refused("no league", x, 1, 0, 0, 0, 0);
        SalaryLid y = Check.told(FIVE);
        Doc.due("one bit too high", y.begin(32 + 6), NONE);
        Doc.due("that bit alone", y.begin(32), NONE);
        Doc.due("the highest bit", y.begin(1 << 30), NONE);
        Doc.due("-1", y.begin(-1), NONE);
        Doc.due("the least", y.begin(Integer.MIN_VALUE), NONE);
        Doc.due("the least and a team", y.begin(Integer.MIN_VALUE + 6), NONE);
        refused("bits", y, 0, 6, 0, 0, 0);
        Doc.due("all players", y.begin(31), NONE);
        Doc.due("nobody", y.begin(0), NONE);
        Doc.due("a keeper too many", y.begin(7), NONE);
        Doc.due("a back too few", y.begin(2), NONE);
        Doc.due("two of a club", y.begin(5), NONE);
        refused("no team", y, 0, 6, 0, 5, 0);
        Doc.due("more than the lid", y.begin(17), NONE);
        refused("money", y, 0, 6, 1, 5, 0);
        Doc.due("no act", y.count(1), 0);
        Doc.due("a team", y.begin(6), 0);
        Doc.due("begun", y.begin(6), NONE);
        Doc.due("begun, another one", y.begin(9), NONE);
        refused("begun", y, 2, 6, 1, 5, 0);
        Doc.due("it stays", y.now(6), 6);
        Doc.due("one act", y.count(1), 1);
    }

    private static void beginOrder() {
        SalaryLid x = new SalaryLid();
        x.begin(-1);
        refused("no league ahead of bits", x, 1, 0, 0, 0, 0);
        SalaryLid y = Check.told(FIVE);
        y.begin(32 + 31);
        refused("bits ahead of a team", y, 0, 1, 0, 0, 0);
        y.begin(16 + 8 + 2);
        refused("a team ahead of money", y, 0, 1, 0, 1, 0);
        y.begin(18);
        refused("money", y, 0, 1, 1, 1, 0);
        y.begin(6);
        y.begin(-1);
        refused("begun ahead of bits", y, 1, 1, 1, 1, 0);
        y.begin(26);
        refused("begun ahead of a team", y, 2, 1, 1, 1, 0);
        y.begin(18);
        refused("begun ahead of money", y, 3, 1, 1, 1, 0);
        playOut(y);
        y.begin(6);
        refused("all weeks are played", y, 4, 1, 1, 1, 0);
    }

    // ---- promise 11 ----

    private static void swapMoney() {
        Doc.says(11, "A SWAP: one that is owned is sold, another one is bought at its PRICE, if the TEAM is one still and MONEY isn't below 0 then;");
        SalaryLid x = owned(PAIR, 1);
        Doc.due("10 with 9", x.swap(0, 3), NONE);
        refused("10 with 9", x, 0, 0, 1, 0, 0);
        Doc.due("no act", x.count(1), 1);
        Doc.due("it stays", x.now(6), 1);
        Doc.due("9 with 9", x.swap(0, 2), 0);
        Doc.due("owned", x.now(6), 4);
        Doc.due("6 with 9", x.swap(2, 1), 3);
        Doc.due("bought at", Check.player(x, 1, 3), 6);
        Doc.due("sold", Check.player(x, 2, 3), NONE);
        Doc.due("swaps", x.now(4), 2);
        Doc.says(11, "A SWAP: MONEY.");
        Doc.due("cheaper than the one sold", x.swap(1, 0), 4);
        Doc.due("as it is told", x.now(0), 4);
        // He rose by 1, then by 2: 9 and half of it is what there is.
        for (int weeks = 0; weeks <= 4; weeks++) {
            SalaryLid y = owned("slots 1 0 0 0;lid 9;weeks 5;rise 5;fall 1;k a 9 5 5 5 5 5;k b 10 2 2 2 2 2;k c 11 2 2 2 2 2", 1);
            for (int week = 0; week < weeks; week++) {
                y.week();
            }
            Doc.due("10 behind " + weeks + " weeks", y.swap(0, 1), weeks < 2 ? NONE : weeks < 4 ? 0 : 1);
            y.undo();
            SalaryLid z = owned("slots 1 0 0 0;lid 9;weeks 5;rise 5;fall 1;k a 9 1 1 1 1 1;k b 7 2 2 2 2 2", 1);
            for (int week = 0; week < weeks; week++) {
                z.week();
            }
            Doc.due("7 behind " + weeks + " weeks of fall", z.swap(0, 1), weeks > 2 ? NONE : 2 - weeks);
        }
    }

    private static void swapTeam() {
        // Backs 2 and 3 of club a, 4 of b; keepers 0 of a, 1 of b.
        String text = "slots 1 2 0 0;club 2;weeks 1;k a 5 1;k b 5 1;b a 5 1;b a 5 1;b b 5 1";
        SalaryLid x = owned(text, 2 + 4 + 8);
        Doc.due("another place", x.swap(1, 4), NONE);
        Doc.due("three of a club", x.swap(1, 0), NONE);
        refused("no team", x, 0, 0, 0, 2, 0);
        Doc.due("two of a club", x.swap(2, 4), 84);
        Doc.due("now two of each", x.swap(1, 0), 84);
    }

    private static void swapCaptain() {
        Doc.says(11, "if the captain was sold, the one bought is captain.");
        String text = "slots 2 0 0 0;weeks 1;k a 5 1;k b 5 2;k c 5 3;k d 5 4";
        SalaryLid x = owned(text, 6);
        Doc.due("the captain", x.now(5), 1);
        x.swap(2, 3);
        Doc.due("another one was sold", x.now(5), 1);
        x.swap(1, 2);
        Doc.due("the captain was sold", x.now(5), 2);
        x.swap(2, 0);
        Doc.due("and again", x.now(5), 0);
        x.swap(3, 1);
        Doc.due("not the other one", x.now(5), 0);
        x.swap(0, 2);
        x.swap(2, 0);
        Doc.due("there and back", x.now(5), 0);
    }

    private static void swapRefused() {
        Doc.says(11, "NONE (STATUS 0; 1: the one isn't owned, the other one is no PLAYER, is owned; 4; 3; 2).");
        SalaryLid x = new SalaryLid();
        Doc.due("no league", x.swap(0, 1), NONE);
        SalaryLid y = Check.told(PAIR);
        Doc.due("not begun", y.swap(0, 1), NONE);
        refused("no league", x, 1, 0, 0, 0, 0);
        refused("not begun", y, 1, 0, 0, 0, 0);
        y.begin(1);
        int[] notOwned = {1, 2, 3, 4, 15, 16, 31, 32, 33, 64, -1, -32, Integer.MIN_VALUE, Integer.MAX_VALUE};
        for (int sold : notOwned) {
            Doc.due("sold " + sold, y.swap(sold, 1), NONE);
        }
        refused("not owned", y, 1, notOwned.length, 0, 0, 0);
        int[] noPlayer = {4, 5, 16, 31, 32, 33, -1, -2, Integer.MIN_VALUE, Integer.MAX_VALUE};
        for (int bought : noPlayer) {
            Doc.due("bought " + bought, y.swap(0, bought), NONE);
        }
        refused("no player", y, 1, notOwned.length + noPlayer.length, 0, 0, 0);
        Doc.due("the same one", y.swap(0, 0), NONE);
        refused("is owned", y, 1, notOwned.length + noPlayer.length + 1, 0, 0, 0);
        Doc.due("the last player", y.swap(0, 2), 0);
        playOut(y);
        Doc.due("all weeks are played", y.swap(2, 0), NONE);
        Doc.due("status 0", y.status(0), 2);
        SalaryLid z = owned("slots 2 0 0 0;weeks 1;k a 5 1;k b 5 2;k c 5 3", 3);
        Doc.due("another one that is owned", z.swap(0, 1), NONE);
        refused("another one that is owned", z, 0, 1, 0, 0, 0);
    }

    private static void swapOrder() {
        SalaryLid x = Check.told(FIVE);
        x.swap(-1, -1);
        refused("not begun ahead of no player", x, 1, 0, 0, 0, 0);
        x.begin(6);
        x.swap(1, 4);
        refused("a team ahead of money", x, 1, 0, 0, 1, 0);
        x.swap(2, 4);
        refused("money", x, 1, 0, 1, 1, 0);
        x.swap(1, 5);
        refused("no player ahead of a team", x, 1, 1, 1, 1, 0);
        x.loan(9);
        x.swap(1, 4);
        refused("loan ahead of a team", x, 1, 1, 1, 1, 1);
        x.swap(2, 4);
        refused("loan ahead of money", x, 1, 1, 1, 1, 2);
        x.swap(1, 5);
        refused("no player ahead of loan", x, 1, 2, 1, 1, 2);
        x.swap(0, 1);
        refused("not owned ahead of loan", x, 1, 3, 1, 1, 2);
        x.swap(1, 2);
        refused("owned ahead of loan", x, 1, 4, 1, 1, 2);
        playOut(x);
        x.swap(-1, -1);
        refused("all played ahead of no player", x, 2, 4, 1, 1, 2);
    }

    // ---- promise 12 ----

    private static void captains() {
        Doc.says(12, "One that is owned is captain: who was.");
        SalaryLid x = owned("slots 3 0 0 0;weeks 2;k a 5 1 1;k b 5 2 2;k c 5 3 3;k d 5 4 4", 14);
        Doc.due("the highest", x.captain(3), 1);
        Doc.due("the lowest", x.captain(1), 3);
        Doc.due("the one between", x.captain(2), 1);
        Doc.due("now", x.now(5), 2);
        Doc.due("it counts", x.week(), 9 + 3);
        Doc.due("he stays captain", x.now(5), 2);
        Doc.says(12, "NONE (STATUS 0; 1: isn't owned, is captain).");
        int[] wrong = {2, 0, -1, 4, 15, 16, 32, 33, 34, Integer.MIN_VALUE, Integer.MAX_VALUE};
        for (int i : wrong) {
            Doc.due("captain " + i, x.captain(i), NONE);
        }
        refused("isn't owned, is captain", x, 0, wrong.length, 0, 0, 0);
        Doc.due("he is still", x.now(5), 2);
        SalaryLid y = new SalaryLid();
        Doc.due("no league", y.captain(0), NONE);
        refused("no league", y, 1, 0, 0, 0, 0);
        SalaryLid z = Check.told(PAIR);
        Doc.due("not begun", z.captain(0), NONE);
        refused("not begun", z, 1, 0, 0, 0, 0);
        x.week();
        Doc.due("all weeks are played", x.captain(3), NONE);
        Doc.due("all played ahead of one not owned", x.captain(0), NONE);
        refused("all weeks are played", x, 2, wrong.length, 0, 0, 0);
        SalaryLid w = owned("slots 2 0 0 0;weeks 1;k a 5 1;k b 5 2", 3);
        w.loan(3);
        Doc.due("with a loan", w.captain(1), 0);
        w.undo();
        w.undo();
        w.chip(0);
        Doc.due("with triple", w.captain(1), 0);
    }

    // ---- promise 13 ----

    private static void chipsOnce() {
        Doc.says(13, "CHIPS, each once: 0 TRIPLE (the captain counts thrice in that WEEK),");
        SalaryLid x = owned("slots 1 0 0 0;weeks 4;k a 5 7 7 7 7;k b 5 8 8 8 8", 1);
        Doc.due("triple", x.chip(0), 2);
        Doc.due("thrice", x.week(), 21);
        Doc.due("in that week alone", x.week(), 14);
        Doc.due("triple again", x.chip(0), NONE);
        refused("triple again", x, 0, 0, 0, 0, 1);
        Doc.due("wild", x.chip(1), 1);
        Doc.due("wild again", x.chip(1), NONE);
        x.week();
        Doc.due("wild once more", x.chip(1), NONE);
        refused("wild again", x, 0, 0, 0, 0, 3);
        Doc.due("loan, the last one", x.loan(2), 1);
        Doc.due("all three", x.now(7), 7);
        Doc.says(13, "CHIP 0 or 1 is played for this WEEK: how many are left.");
        SalaryLid y = owned("slots 1 0 0 0;weeks 3;k a 5 7 7 7;k b 5 8 8 8", 1);
        Doc.due("triple, the first one", y.chip(0), 2);
        Doc.due("played for this week", y.now(8), 0);
        y.undo();
        Doc.due("wild, the first one", y.chip(1), 2);
        Doc.due("played for this week", y.now(8), 1);
        y.undo();
        y.loan(1);
        y.week();
        Doc.due("wild behind loan", y.chip(1), 1);
        y.week();
        Doc.due("triple, the last one", y.chip(0), 0);
    }

    private static void chipRefused() {
        Doc.says(13, "NONE (STATUS 0; 1; 4).");
        SalaryLid x = new SalaryLid();
        Doc.due("no league", x.chip(0), NONE);
        refused("no league", x, 1, 0, 0, 0, 0);
        SalaryLid y = Check.told(PAIR);
        Doc.due("not begun", y.chip(0), NONE);
        Doc.due("not begun, no such", y.chip(2), NONE);
        refused("not begun", y, 2, 0, 0, 0, 0);
        y.begin(1);
        int[] wrong = {-1, 2, 3, 32, 33, Integer.MIN_VALUE, Integer.MAX_VALUE};
        for (int which : wrong) {
            Doc.due("chip " + which, y.chip(which), NONE);
        }
        refused("no such", y, 2, wrong.length, 0, 0, 0);
        Doc.due("none was played", y.now(7), 0);
        Doc.due("chip 1", y.chip(1), 2);
        y.chip(2);
        refused("no such ahead of one in this week", y, 2, wrong.length + 1, 0, 0, 0);
        y.chip(1);
        refused("was played", y, 2, wrong.length + 1, 0, 0, 1);
        playOut(y);
        Doc.due("all weeks are played", y.chip(0), NONE);
        Doc.due("all played, no such", y.chip(2), NONE);
        Doc.due("all played, was played", y.chip(1), NONE);
        refused("all played", y, 5, wrong.length + 1, 0, 0, 1);
    }

    private static void oneChipAWeek() {
        Doc.says(13, "One CHIP a WEEK;");
        for (int first = 0; first < 3; first++) {
            SalaryLid x = owned("slots 1 0 0 0;weeks 2;k a 5 7 7;k b 5 8 8", 1);
            Doc.due("the first one, " + first, first == 2 ? x.loan(2) : x.chip(first), first == 2 ? 1 : 2);
            Doc.due("triple behind it", x.chip(0), NONE);
            Doc.due("wild behind it", x.chip(1), NONE);
            Doc.due("loan behind it", x.loan(2), NONE);
            refused("behind " + first, x, 0, 0, 0, 0, 3);
            Doc.due("chips played", x.now(7), 1 << first);
            Doc.due("the chip", x.now(8), first);
            x.week();
            Doc.due("none in the next week", x.now(8), NONE);
            Doc.due("another one", x.chip(first == 0 ? 1 : 0), 1);
        }
    }

    // ---- promise 14 ----

    private static void loanUnderWorth() {
        Doc.says(14, "2 LOAN: a TEAM (any) whose PRICES together are no more than WORTH counts in that WEEK,");
        SalaryLid x = owned("slots 1 0 0 0;lid 9;weeks 3;rise 5;fall 1;k a 5 5 5 1;k b 8 6 2 2;k c 9 7 2 2;k d 10 8 2 2;k e 9 4 5 5", 1);
        Doc.due("10 with 9", x.loan(8), NONE);
        refused("10 with 9", x, 0, 0, 1, 0, 0);
        Doc.due("9 with 9", x.loan(4), 2);
        Doc.due("it counts", x.week(), 14);
        x.undo();
        x.undo();
        Doc.due("8 with 9", x.loan(2), 1);
        Doc.due("it counts", x.week(), 12);
        x.undo();
        x.undo();
        Doc.due("the one that is owned", x.loan(1), 0);
        Doc.due("it counts", x.week(), 10);
        x.undo();
        x.undo();
        x.week();
        // Prices 6, 9, 10, 11, 9; worth 4 and 5 still, then 10.
        Doc.due("10 with 9, prices as now", x.loan(4), NONE);
        x.week();
        Doc.due("worth", x.now(1), 10);
        Doc.due("11 with 10", x.loan(8), NONE);
        Doc.due("10 with 10", x.loan(4), 2);
        refused("prices as now", x, 0, 0, 3, 0, 0);
    }

    private static void loanCaptain() {
        Doc.says(14, "with a captain of its own (that with most POINTS, the lowest of several);");
        SalaryLid x = owned("slots 3 0 0 0;weeks 2;k a 1 4 -5;k b 1 5 -4;k c 1 5 -4;k d 1 6 -4;k e 1 3 -9", 1 + 2 + 16);
        int[][] teams = {{7, 1}, {14, 3}, {1 + 2 + 8, 3}, {1 + 4 + 16, 2}, {1 + 2 + 16, 1}};
        for (int[] team : teams) {
            Doc.due("team " + team[0], x.loan(team[0]), team[1]);
            Doc.due("the captain of the one owned stays", x.now(5), 0);
            x.week();
            Doc.due("as it is told", x.tale(0, 2), team[1]);
            x.undo();
            x.undo();
        }
        x.week();
        Doc.says(14, "LOAN: its captain.");
        Doc.due("the highest", x.loan(1 + 8 + 16), 3);
        x.undo();
        Doc.due("the lowest", x.loan(1 + 2 + 16), 1);
        x.undo();
        Doc.due("all below 0, of this week", x.loan(7), 1);
        Doc.due("score", x.week(), -13 - 4);
    }

    private static void loanStays() {
        Doc.says(14, "the TEAM that is owned stays.");
        SalaryLid x = owned("slots 1 0 0 0;lid 20;weeks 2;rise 5;fall 1;k a 5 2 2;k b 8 6 6", 1);
        x.loan(2);
        Doc.due("owned", x.now(6), 1);
        Doc.due("on loan", x.now(10), 2);
        Doc.due("money", x.now(0), 15);
        Doc.due("one on loan isn't bought", Check.player(x, 1, 3), NONE);
        Doc.due("score", x.week(), 12);
        Doc.due("owned behind it", x.now(6), 1);
        Doc.due("none on loan", x.now(10), 0);
        Doc.due("captain behind it", x.now(5), 0);
        Doc.due("the next week", x.week(), 4);
    }

    private static void loanAndSwaps() {
        Doc.says(14, "with LOAN no SWAP can be in that WEEK, nor LOAN behind one.");
        SalaryLid x = owned("slots 1 0 0 0;weeks 3;k a 5 2 2 2;k b 5 6 6 6", 1);
        x.loan(2);
        Doc.due("a swap", x.swap(0, 1), NONE);
        refused("a swap", x, 0, 0, 0, 0, 1);
        x.week();
        Doc.due("a swap in the next week", x.swap(0, 1), 94);
        SalaryLid y = owned("slots 1 0 0 0;weeks 3;k a 5 2 2 2;k b 5 6 6 6", 1);
        y.swap(0, 1);
        Doc.due("loan behind a swap", y.loan(1), NONE);
        y.swap(1, 0);
        Doc.due("loan behind two", y.loan(1), NONE);
        refused("loan behind swaps", y, 0, 0, 0, 0, 2);
        y.undo();
        y.undo();
        Doc.due("the swaps undone", y.loan(1), 0);
        y.undo();
        y.swap(0, 1);
        y.week();
        Doc.due("in the next week", y.loan(1), 0);
    }

    private static void loanRefused() {
        Doc.says(14, "NONE (STATUS 0; 1: bits of no PLAYER, below 0; 4; 3; 2).");
        SalaryLid x = new SalaryLid();
        Doc.due("no league, below 0", x.loan(-1), NONE);
        refused("no league", x, 1, 0, 0, 0, 0);
        SalaryLid y = Check.told(FIVE);
        Doc.due("not begun, below 0", y.loan(-1), NONE);
        refused("not begun", y, 1, 0, 0, 0, 0);
        y.begin(6);
        int[] wrong = {32, 32 + 6, 1 << 30, -1, Integer.MIN_VALUE, Integer.MIN_VALUE + 6, Integer.MAX_VALUE};
        for (int set : wrong) {
            Doc.due("loan " + set, y.loan(set), NONE);
        }
        refused("bits", y, 1, wrong.length, 0, 0, 0);
        int[] noTeam = {0, 31, 7, 2, 5, 26};
        for (int set : noTeam) {
            Doc.due("loan " + set, y.loan(set), NONE);
        }
        refused("a team ahead of money", y, 1, wrong.length, 0, noTeam.length, 0);
        y.loan(18);
        refused("money", y, 1, wrong.length, 1, noTeam.length, 0);
        Doc.due("none was played", y.now(7), 0);
        y.chip(0);
        y.loan(-1);
        refused("bits ahead of a chip", y, 1, wrong.length + 1, 1, noTeam.length, 0);
        y.loan(31);
        refused("a chip ahead of a team", y, 1, wrong.length + 1, 1, noTeam.length, 1);
        y.loan(18);
        refused("a chip ahead of money", y, 1, wrong.length + 1, 1, noTeam.length, 2);
        y.week();
        y.swap(2, 3);
        Doc.due("two of club b", y.now(4), 0);
        y.swap(1, 0);
        Doc.due("two of club a", y.now(4), 0);
        Doc.due("the loan", y.loan(6), 2);
        y.week();
        y.loan(31);
        refused("was played ahead of a team", y, 1, wrong.length + 1, 1, noTeam.length + 2, 3);
        y.week();
        y.loan(-1);
        refused("all played ahead of bits", y, 2, wrong.length + 1, 1, noTeam.length + 2, 3);
    }

    // ---- promise 37 ----

    private static int[] picture(SalaryLid x) {
        int[] all = new int[11 + 12 + 36];
        for (int what = 0; what <= 10; what++) {
            all[what] = x.now(what);
        }
        for (int i = 0; i < 4; i++) {
            all[11 + 3 * i] = (int) Check.player(x, i, 2);
            all[12 + 3 * i] = (int) Check.player(x, i, 3);
            all[13 + 3 * i] = (int) Check.player(x, i, 4);
        }
        for (int k = 0; k < 36; k++) {
            all[23 + k] = x.tale(k / 6, k % 6);
        }
        return all;
    }

    private static void same(String when, SalaryLid x, int[] want) {
        int[] got = picture(x);
        for (int k = 0; k < got.length; k++) {
            Doc.due(when + ", the " + k + "th", got[k], want[k]);
        }
    }

    private static void act(SalaryLid x, int which) {
        switch (which) {
            case 0: x.begin(1); break;
            case 1: x.swap(0, 1); break;
            case 2: x.swap(1, 2); break;
            case 3: x.chip(1); break;
            case 4: x.week(); break;
            case 5: x.chip(0); break;
            case 6: x.week(); break;
            case 7: x.loan(2); break;
            case 8: x.week(); break;
            default: x.swap(2, 0);
        }
    }

    private static void undoOfEach() {
        Doc.says(37, "ACTS: BEGUN, SWAP, captain, CHIPS, a WEEK:");
        SalaryLid x = Check.told("slots 1 0 0 0;lid 20;weeks 4;rise 5;fall 1;k a 5 5 5 5 5;k b 6 1 1 1 1;k c 7 9 9 9 9;k d 9 2 2 2 2");
        int[][] before = new int[10][];
        for (int k = 0; k < 10; k++) {
            before[k] = picture(x);
            act(x, k);
            Doc.due("acts", x.count(1), k + 1);
        }
        Doc.says(37, "The latest ACT is UNDONE: how many still can be.");
        for (int k = 9; k >= 0; k--) {
            Doc.due("undone " + k, x.undo(), k);
            same("undone " + k, x, before[k]);
        }
        SalaryLid y = owned("slots 2 0 0 0;weeks 1;k a 5 1;k b 5 1", 3);
        y.captain(1);
        Doc.due("a captain", y.undo(), 1);
        Doc.due("who was", y.now(5), 0);
    }

    private static void undoTwelve() {
        Doc.says(37, "the latest 12 can be UNDONE.");
        for (int acts = 1; acts <= 26; acts++) {
            SalaryLid x = Check.told("slots 2 0 0 0;weeks 1;k a 5 1;k b 5 1");
            x.begin(3);
            for (int k = 1; k < acts; k++) {
                x.captain(k % 2);
            }
            int can = Math.min(12, acts);
            Doc.due("of " + acts + " acts", x.count(1), can);
            for (int k = can - 1; k >= 0; k--) {
                Doc.due("of " + acts + " acts, left", x.undo(), k);
            }
            Doc.due("of " + acts + " acts, one more", x.undo(), NONE);
            // Of the acts that are left the last one made this one captain.
            int left = acts - can;
            Doc.due("of " + acts + " acts, what is left", x.now(5), left == 0 ? HIDDEN : left == 1 ? 0 : (left - 1) % 2);
        }
        SalaryLid y = Check.told("slots 2 0 0 0;weeks 1;k a 5 1;k b 5 1");
        y.begin(3);
        for (int k = 1; k < 20; k++) {
            y.captain(k % 2);
        }
        y.undo();
        y.undo();
        Doc.due("ten are left", y.count(1), 10);
        y.captain(0);
        y.captain(1);
        Doc.due("twelve again", y.count(1), 12);
        y.captain(0);
        Doc.due("no more than twelve", y.count(1), 12);
    }

    private static void undoNone() {
        Doc.says(37, "NONE: none.");
        SalaryLid x = new SalaryLid();
        Doc.due("a new object", x.undo(), NONE);
        SalaryLid y = Check.told(PAIR);
        Doc.due("a league alone", y.undo(), NONE);
        y.begin(-1);
        y.week();
        Doc.due("refused calls alone", y.undo(), NONE);
        y.begin(1);
        Doc.due("the only one", y.undo(), 0);
        Doc.due("none again", y.undo(), NONE);
        y.begin(1);
        y.image();
        y.back();
        Doc.due("behind an image", y.undo(), NONE);
        Doc.due("it is begun still", y.now(6), 1);
        y.captain(1);
        y.swap(0, 0);
        y.chip(7);
        Doc.due("refused calls can't be undone", y.undo(), NONE);
        refused("nor are they uncounted", y, 1, 4, 0, 0, 0);
    }

    // ---- promises 38 and 39 ----

    private static void images() {
        Doc.says(38, "An IMAGE (instead of the one ahead): WEEKS that were played.");
        SalaryLid x = Check.told("slots 1 0 0 0;lid 20;weeks 4;rise 5;fall 1;k a 5 5 5 5 5;k b 6 1 1 1 1;k c 7 9 9 9 9;k d 9 2 2 2 2");
        Doc.due("not begun", x.image(), 0);
        x.begin(1);
        for (int week = 0; week <= 4; week++) {
            Doc.due("behind " + week + " weeks", x.image(), week);
            x.week();
        }
        x.undo();
        Doc.due("behind 3 again", x.image(), 3);
        Doc.due("acts stay", x.count(1), 4);
        x.week();
        Doc.due("the last one alone is there", x.back(), 3);
        Doc.due("it stays there", x.back(), 3);
        Doc.says(38, "An IMAGE keeps what they change.");
        SalaryLid y = Check.told("slots 1 0 0 0;lid 20;weeks 4;rise 5;fall 1;k a 5 5 5 5 5;k b 6 1 1 1 1;k c 7 9 9 9 9;k d 9 2 2 2 2");
        for (int k = 0; k < 10; k++) {
            int[] before = picture(y);
            y.image();
            for (int more = k; more < 10; more++) {
                act(y, more);
            }
            y.back();
            same("back ahead of " + k, y, before);
            act(y, k);
        }
        SalaryLid z = owned("slots 2 0 0 0;weeks 2;k a 5 1 4;k b 5 3 6", 3);
        z.week();
        z.image();
        int plan = z.plan(0);
        z.undo();
        z.captain(1);
        z.week();
        z.chip(0);
        Doc.due("another week was played", z.tale(0, 0), 4 + 3);
        Doc.due("another plan", z.plan(21), 0);
        z.week();
        z.back();
        Doc.due("the week as it was", z.tale(0, 0), 4 + 1);
        Doc.due("its captain", z.tale(0, 2), 0);
        Doc.due("the plan as it was", z.plan(0), plan);
        SalaryLid w = owned(PAIR, 1);
        w.image();
        w.week();
        Doc.due("a plan behind a week", w.plan(10), HIDDEN);
        // He fell to 4, so that the worth is 8: the one for 9 is no choice.
        Doc.due("a plan of one week", w.plan(0), 4 * 3);
        w.back();
        Doc.due("a plan of two weeks", w.plan(0), 8 * 2 + 8 * 3);
        Doc.due("its first week", w.plan(10), 4);
    }

    private static void imageRefused() {
        Doc.says(38, "NONE: no LEAGUE.");
        SalaryLid x = new SalaryLid();
        Doc.due("a new object", x.image(), NONE);
        Check.feed(x, "slots 1 0 0 0;k a 1 1 1");
        x.league();
        Doc.due("a fault", x.image(), NONE);
        Check.feed(x, " 1");
        x.league();
        Doc.due("a league", x.image(), 0);
        refused("none of these is counted", x, 0, 0, 0, 0, 0);
    }

    private static void backs() {
        Doc.says(39, "All it keeps is so again (no ACT can be UNDONE then): WEEKS that were played.");
        SalaryLid x = Check.told(PAIR);
        x.image();
        x.begin(1);
        x.week();
        Doc.due("not begun", x.back(), 0);
        Doc.due("nothing begun", x.now(2), HIDDEN);
        Doc.due("no act", x.count(1), 0);
        Doc.due("none to undo", x.undo(), NONE);
        x.begin(1);
        x.week();
        x.chip(0);
        x.image();
        x.week();
        Doc.due("one week", x.back(), 1);
        Doc.due("the chip is of this week", x.now(8), 0);
        Doc.due("no act ahead of it either", x.undo(), NONE);
        Doc.due("thrice", x.week(), 6);
        Doc.due("one act", x.undo(), 0);
        Doc.due("the image stays behind an undo", x.back(), 1);
        Doc.says(39, "NONE: no IMAGE.");
        Doc.due("a new object", new SalaryLid().back(), NONE);
        SalaryLid y = Check.told(PAIR);
        y.begin(1);
        Doc.due("none yet", y.back(), NONE);
        Doc.due("it stays", y.now(6), 1);
        Doc.due("acts stay", y.count(1), 1);
        y.image();
        Check.feed(y, PAIR);
        y.league();
        Doc.due("gone with a new league", y.back(), NONE);
        refused("none of these is counted", y, 0, 0, 0, 0, 0);
    }

    // ---- promises 40 and 42 ----

    private static void statusCounts() {
        Doc.says(40, "STATUS: how many calls of these were refused: 0 no LEAGUE, not BEGUN (or BEGUN), all WEEKS are played;"
            + " 1 no such PLAYER, CHIP, SET; 2 MONEY; 3 it isn't a TEAM; 4 the CHIP was played, one was in this WEEK, LOAN and SWAPS; of several the first.");
        SalaryLid x = new SalaryLid();
        x.league();
        x.undo();
        x.back();
        x.image();
        x.end(-1);
        Check.player(x, 0, 0);
        x.plan(0);
        refused("other calls aren't counted", x, 0, 0, 0, 0, 0);
        x.begin(1);
        x.swap(0, 1);
        x.captain(0);
        x.chip(0);
        x.loan(1);
        x.week();
        refused("no league", x, 6, 0, 0, 0, 0);
        Check.feed(x, PAIR);
        x.league();
        refused("a league leaves them", x, 6, 0, 0, 0, 0);
        x.swap(0, 1);
        x.captain(0);
        x.chip(0);
        x.loan(1);
        x.week();
        refused("not begun", x, 11, 0, 0, 0, 0);
        x.begin(16);
        x.begin(8);
        x.begin(3);
        x.begin(1);
        x.begin(1);
        refused("begin", x, 12, 1, 1, 1, 0);
        x.swap(1, 2);
        x.swap(0, 3);
        x.captain(0);
        x.chip(2);
        x.loan(16);
        x.loan(8);
        x.loan(3);
        refused("begun", x, 12, 5, 3, 2, 0);
        x.image();
        x.chip(0);
        x.chip(0);
        x.chip(1);
        x.loan(1);
        refused("chips", x, 12, 5, 3, 2, 3);
        x.undo();
        refused("undo leaves them", x, 12, 5, 3, 2, 3);
        x.back();
        refused("back leaves them", x, 12, 5, 3, 2, 3);
    }

    private static void statusHidden() {
        Doc.says(40, "STATUS. NONE: no such what.");
        SalaryLid x = new SalaryLid();
        Doc.bounds("what of a new object", x::status, 0, 4, NONE);
        SalaryLid y = owned(PAIR, 1);
        Doc.bounds("what", y::status, 0, 4, NONE);
    }

    private static void counts() {
        Doc.says(42, "0 bytes of the TAPE, 1 ACTS that can be UNDONE.");
        SalaryLid x = new SalaryLid();
        Doc.due("no byte", x.count(0), 0);
        x.feed(0, 0, 0, 0, 1);
        Doc.due("one byte", x.count(0), 1);
        for (int k = 0; k < 19; k++) {
            x.feed(-1, -1, -1, -1, -1);
        }
        Doc.due("381", x.count(0), 381);
        x.feed(-1, -1, -1, -1, 0x00ffffff);
        Doc.due("400", x.count(0), 400);
        x.feed(0, 0, 0, 0, 1);
        Doc.due("no more than 400", x.count(0), 400);
        x.end(0);
        Doc.due("none again", x.count(0), 0);
        SalaryLid y = owned("slots 2 0 0 0;weeks 1;k a 5 1;k b 5 1", 3);
        for (int acts = 1; acts <= 15; acts++) {
            Doc.due(acts + " acts", y.count(1), Math.min(12, acts));
            y.captain(acts % 2);
        }
        Doc.says(42, "NONE for others.");
        Doc.bounds("what of a new object", new SalaryLid()::count, 0, 1, NONE);
        Doc.bounds("what", y::count, 0, 1, NONE);
    }
}
