/** Promises 7 to 9 and 15, 16, and what the terms say of prices, money, free swaps and a week that is played. */
final class SeasonBounds {
    private static final int NONE = SalaryLid.NONE;
    private static final int HIDDEN = SalaryLid.HIDDEN;

    // Two keepers of one slot; who of them is owned doesn't matter to the money.
    private static final String PAIR = "slots 1 0 0 0;weeks 6;cost 3;k a 5 7 7 7 7 7 7;k b 5 7 7 7 7 7 7";

    private SeasonBounds() {
    }

    static void run() {
        players();
        noSuchPlayers();
        pointsTold();
        boughtAtAPrice();
        whatOneBrings();
        moneyAndWorth();
        nowTells();
        nowHidden();
        freeAtFirst();
        freeBehindAWeek();
        freeTwoAtMost();
        freeWithChips();
        scores();
        scoreOfSwaps();
        pricesMove();
        pricesWithin();
        weekRefused();
        tales();
        talesHidden();
    }

    // ---- promises 7 and 8 ----

    private static void players() {
        Doc.says(7, "Of a PLAYER: 0 PLACE, 1 CLUB (from 0), 2 PRICE,");
        SalaryLid x = Check.told("slots 1 1 1 1;weeks 6;k a 1 99 99 99 99 99 99;b c 50 -99 -99 -99 -99 -99 -99;m e 98 1 2 3 4 5 6;f f 99 0 0 0 0 0 0;f b 99 0 0 1 -1 0 0");
        int[][] want = {{0, 0, 1}, {1, 2, 50}, {2, 4, 98}, {3, 5, 99}, {3, 1, 99}};
        for (int i = 0; i < 5; i++) {
            for (int what = 0; what < 3; what++) {
                Doc.due("player " + i + ", what " + what, Check.player(x, i, what), want[i][what]);
            }
        }
        Doc.says(7, "5 POINTS of all WEEKS together.");
        int[] points = {594, -594, 21, 0, 0};
        for (int i = 0; i < 5; i++) {
            Doc.due("player " + i, Check.player(x, i, 5), points[i]);
        }
        SalaryLid y = Check.told("slots 1 0 0 0;k a 5 1 20 30");
        y.begin(1);
        y.week();
        y.week();
        Doc.due("weeks that were played, too", Check.player(y, 0, 5), 51);
        Doc.says(7, "3 what it was BOUGHT at (NONE: not owned), 4 what it brings (likewise),");
        SalaryLid z = Check.told("slots 1 0 0 0;weeks 2;rise 1;k a 5 3 3;k b 6 3 3");
        Doc.due("not begun, bought", Check.player(z, 0, 3), NONE);
        Doc.due("not begun, brings", Check.player(z, 0, 4), NONE);
        z.begin(1);
        Doc.due("owned, bought", Check.player(z, 0, 3), 5);
        Doc.due("owned, brings", Check.player(z, 0, 4), 5);
        Doc.due("not owned, bought", Check.player(z, 1, 3), NONE);
        Doc.due("not owned, brings", Check.player(z, 1, 4), NONE);
        z.swap(0, 1);
        Doc.due("sold, bought", Check.player(z, 0, 3), NONE);
        Doc.due("sold, brings", Check.player(z, 0, 4), NONE);
        Doc.due("bought, bought", Check.player(z, 1, 3), 6);
        z.undo();
        z.undo();
        Doc.due("begun undone, bought", Check.player(z, 0, 3), NONE);
        Doc.due("begun undone, brings", Check.player(z, 0, 4), NONE);
    }

    private static void noSuchPlayers() {
        Doc.says(7, "NoSuchElementException: no such ones.");
        SalaryLid x = Check.told("slots 1 0 0 0;k a 1 1 1 1;k a 1 1 1 1;k a 1 1 1 1");
        for (int what = 0; what <= 5; what++) {
            int asked = what;
            // What is not owned has been answered with NONE, that is no exception.
            Doc.bounds("what " + what + " of player", i -> Check.player(x, i, asked), 0, 2, Check.THROWN);
        }
        for (int i = 0; i < 3; i++) {
            int asked = i;
            Doc.bounds("player " + i + ", what", what -> Check.player(x, asked, what), 0, 5, Check.THROWN);
        }
        for (int what = -1; what <= 6; what++) {
            Doc.due("no league, what " + what, Check.player(new SalaryLid(), 0, what), Check.THROWN);
        }
        SalaryLid y = Check.told("slots 1 0 0 0;weeks 1" + ";k a1 1".repeat(16));
        Doc.bounds("of sixteen, player", i -> Check.player(y, i, 2), 0, 15, Check.THROWN);
    }

    private static void pointsTold() {
        Doc.says(8, "POINTS of a PLAYER in a WEEK.");
        SalaryLid x = Check.told("slots 1 0 0 0;weeks 6;k a 1 0 1 -1 98 99 -99;k a 1 6 5 4 3 2 1");
        int[][] want = {{0, 1, -1, 98, 99, -99}, {6, 5, 4, 3, 2, 1}};
        for (int i = 0; i < 2; i++) {
            for (int week = 0; week < 6; week++) {
                Doc.due("player " + i + ", week " + week, x.points(i, week), want[i][week]);
            }
        }
        x.begin(1);
        x.week();
        Doc.due("a week that was played", x.points(1, 0), 6);
        Doc.says(8, "HIDDEN: no such ones.");
        Doc.bounds("player", i -> x.points(i, 0), 0, 1, HIDDEN);
        Doc.bounds("week", week -> x.points(0, week), 0, 5, HIDDEN);
        SalaryLid y = Check.told("slots 1 0 0 0;weeks 1;k a 1 5");
        Doc.bounds("the only player", i -> y.points(i, 0), 0, 0, HIDDEN);
        Doc.bounds("the only week", week -> y.points(0, week), 0, 0, HIDDEN);
        Doc.due("no league", new SalaryLid().points(0, 0), HIDDEN);
    }

    // ---- prices, money, worth ----

    private static void boughtAtAPrice() {
        Doc.says(7, "==== 2. PRICES move; each PLAYER of the TEAM that is owned was BOUGHT at a price.");
        SalaryLid x = Check.told("slots 1 0 0 0;weeks 4;rise 5;fall 1;k a 10 5 5 5 5;k b 20 1 5 1 5");
        x.begin(1);
        x.week();
        Doc.due("the price moves", Check.player(x, 0, 2), 11);
        Doc.due("what it was bought at doesn't", Check.player(x, 0, 3), 10);
        Doc.due("that of one not owned moves, too", Check.player(x, 1, 2), 19);
        x.swap(0, 1);
        x.week();
        Doc.due("bought later, at the price of then", Check.player(x, 1, 3), 19);
        Doc.due("its price has moved", Check.player(x, 1, 2), 20);
        x.swap(1, 0);
        Doc.due("bought again, at another price", Check.player(x, 0, 3), 12);
    }

    private static void whatOneBrings() {
        Doc.says(7, "To SELL one brings its PRICE, if that is no more than what it was BOUGHT at,"
            + " else what it was BOUGHT at and half of what it rose (rounded down).");
        SalaryLid x = Check.told("slots 3 0 0 0;weeks 6;rise 5;fall 1;k a 10 5 5 5 5 5 5;k b 10 1 1 1 1 1 1;k c 10 1 2 5 5 5 5");
        x.begin(7);
        int[][] brings = {{10, 10, 11, 11, 12, 12, 13}, {10, 9, 8, 7, 6, 5, 4}, {10, 9, 9, 10, 10, 11, 11}};
        for (int week = 0; week <= 6; week++) {
            for (int i = 0; i < 3; i++) {
                Doc.due("player " + i + " behind " + week + " weeks", Check.player(x, i, 4), brings[i][week]);
            }
            x.week();
        }
        // The money is what was left, and what the sold one brought.
        SalaryLid y = Check.told("slots 1 0 0 0;lid 10;weeks 6;rise 5;fall 1;k a 10 5 5 5 5 5 5;k b 1 2 2 2 2 2 2");
        y.begin(1);
        int[] money = {9, 9, 10, 10, 11, 11};
        for (int week = 0; week < 6; week++) {
            Doc.due("sold behind " + week + " weeks", y.swap(0, 1), money[week]);
            y.undo();
            y.week();
        }
    }

    private static void moneyAndWorth() {
        Doc.says(9, "MONEY is the lid at first.");
        for (int lid : new int[] {5, 6, 99, 598, 599}) {
            SalaryLid x = Check.told("slots 1 0 0 0;lid " + lid + ";k a 5 1 1 1");
            Doc.due("lid " + lid + ", begun", x.begin(1), lid - 5);
            Doc.due("lid " + lid + ", worth", x.now(1), lid);
        }
        Doc.due("without lid", Check.told("slots 1 0 0 0;k a 5 1 1 1").begin(1), 94);
        Doc.says(9, "WORTH: MONEY and what all PLAYERS owned bring, together.");
        SalaryLid y = Check.told("slots 2 0 0 0;lid 30;weeks 3;rise 5;fall 1;k a 10 5 5 1;k b 12 5 1 1;k c 3 9 9 9");
        y.begin(3);
        int[] worth = {30, 30, 8 + 11 + 12, 8 + 10 + 11};
        for (int week = 0; week <= 3; week++) {
            Doc.due("behind " + week + " weeks", y.now(1), worth[week]);
            y.week();
        }
        SalaryLid z = Check.told("slots 1 0 0 0;lid 30;weeks 3;rise 5;fall 1;k a 10 5 5 1;k b 12 2 2 2");
        z.begin(1);
        z.week();
        z.week();
        Doc.due("ahead of a swap", z.now(1), 31);
        z.swap(0, 1);
        Doc.due("a swap leaves it as it is", z.now(1), 31);
    }

    // ---- promise 9 ----

    private static void now(String when, SalaryLid x, int... want) {
        for (int what = 0; what < want.length; what++) {
            Doc.due(when + ", what " + what, x.now(what), want[what]);
        }
    }

    private static void nowTells() {
        Doc.says(9, "0 MONEY, 1 WORTH, 2 WEEKS that were played, 3 FREE, 4 SWAPS of this WEEK, 5 the captain, 6 the TEAM that is owned,"
            + " 7 CHIPS played (bits), 8 the CHIP of this WEEK (NONE), 9 SCORES together, 10 the TEAM on LOAN (0).");
        SalaryLid x = Check.told("slots 2 0 0 0;lid 30;weeks 4;cost 2;rise 9;fall 0;k a 10 1 1 1 1;k b 11 2 2 2 2;k c 12 3 3 3 3");
        x.begin(6);
        now("begun", x, 7, 30, 0, 1, 0, 1, 6, 0, NONE, 0, 0);
        x.swap(1, 0);
        now("a swap", x, 8, 30, 0, 1, 1, 0, 5, 0, NONE, 0, 0);
        x.swap(2, 1);
        now("two swaps", x, 9, 30, 0, 1, 2, 0, 3, 0, NONE, 0, 0);
        x.captain(1);
        now("another captain", x, 9, 30, 0, 1, 2, 1, 3, 0, NONE, 0, 0);
        x.chip(1);
        now("wild", x, 9, 30, 0, 1, 2, 1, 3, 2, 1, 0, 0);
        x.week();
        now("a week", x, 9, 30, 1, 2, 0, 1, 3, 2, NONE, 5, 0);
        x.loan(6);
        now("a loan", x, 9, 30, 1, 2, 0, 1, 3, 6, 2, 5, 6);
        x.week();
        now("the loan is over", x, 9, 30, 2, 2, 0, 1, 3, 6, NONE, 13, 0);
        x.chip(0);
        now("triple", x, 9, 30, 2, 2, 0, 1, 3, 7, 0, 13, 0);
        x.week();
        x.week();
        now("all weeks", x, 9, 30, 4, 2, 0, 1, 3, 7, NONE, 13 + 7 + 5, 0);
    }

    private static void nowHidden() {
        Doc.says(9, "HIDDEN: not BEGUN, no such what.");
        SalaryLid x = Check.told(PAIR);
        for (int what = -1; what <= 11; what++) {
            Doc.due("no league, what " + what, new SalaryLid().now(what), HIDDEN);
            Doc.due("not begun, what " + what, x.now(what), HIDDEN);
        }
        x.begin(1);
        Doc.bounds("begun, what", x::now, 0, 10, HIDDEN);
        x.undo();
        for (int what = 0; what <= 10; what++) {
            Doc.due("begun undone, what " + what, x.now(what), HIDDEN);
        }
        x.begin(2);
        for (int week = 0; week < 6; week++) {
            x.week();
        }
        Doc.bounds("all weeks are played, what", x::now, 0, 10, HIDDEN);
    }

    // ---- free swaps ----

    private static SalaryLid pairOwned() {
        SalaryLid x = Check.told(PAIR);
        x.begin(1);
        return x;
    }

    /** So many swaps, then the week is played: its score. */
    private static int weekWith(SalaryLid x, int swaps) {
        for (int k = 0; k < swaps; k++) {
            int owned = x.now(6);
            x.swap(owned == 1 ? 0 : 1, owned == 1 ? 1 : 0);
        }
        return x.week();
    }

    private static void freeAtFirst() {
        Doc.says(15, "FREE: how many SWAPS of a WEEK cost nothing: 1 in WEEK 0 (once BEGUN);");
        for (int swaps = 0; swaps <= 4; swaps++) {
            SalaryLid x = pairOwned();
            Doc.due("free", x.now(3), 1);
            Doc.due(swaps + " swaps in week 0", weekWith(x, swaps), 14 - 3 * Math.max(0, swaps - 1));
        }
        SalaryLid y = Check.told(PAIR);
        Doc.due("not begun", y.now(3), HIDDEN);
        y.begin(1);
        weekWith(y, 0);
        y.undo();
        y.undo();
        y.begin(2);
        Doc.due("begun again", y.now(3), 1);
    }

    private static void freeBehindAWeek() {
        Doc.says(15, "behind each WEEK what is left of it and 1 more, 2 at most.");
        int[] behindOne = {2, 1, 1, 1};
        int[] behindTwo = {2, 2, 1, 1, 1};
        for (int swaps = 0; swaps <= 3; swaps++) {
            SalaryLid x = pairOwned();
            weekWith(x, swaps);
            Doc.due("of 1, behind " + swaps + " swaps", x.now(3), behindOne[swaps]);
        }
        for (int swaps = 0; swaps <= 4; swaps++) {
            SalaryLid x = pairOwned();
            weekWith(x, 0);
            Doc.due(swaps + " swaps with 2 free", weekWith(x, swaps), 14 - 3 * Math.max(0, swaps - 2));
            Doc.due("of 2, behind " + swaps + " swaps", x.now(3), behindTwo[swaps]);
        }
    }

    private static void freeTwoAtMost() {
        SalaryLid x = pairOwned();
        for (int week = 1; week <= 6; week++) {
            weekWith(x, 0);
            Doc.due("behind " + week + " weeks without a swap", x.now(3), 2);
        }
        SalaryLid y = pairOwned();
        for (int week = 1; week <= 6; week++) {
            Doc.due("one swap each week costs nothing", weekWith(y, 1), 14);
            Doc.due("and leaves nothing", y.now(3), 1);
        }
    }

    private static void freeWithChips() {
        Doc.says(13, "1 WILD (SWAPS of that WEEK cost nothing, FREE stays),");
        for (int swaps = 0; swaps <= 4; swaps++) {
            SalaryLid x = pairOwned();
            x.chip(1);
            Doc.due("free in that week", x.now(3), 1);
            Doc.due(swaps + " swaps", weekWith(x, swaps), 14);
            Doc.due("free behind " + swaps + " swaps", x.now(3), 2);
            Doc.due("in that week alone", weekWith(x, 3), 11);
            SalaryLid y = pairOwned();
            weekWith(y, 0);
            y.chip(1);
            Doc.due(swaps + " swaps with 2 free", weekWith(y, swaps), 14);
            Doc.due("2 at most", y.now(3), 2);
        }
        SalaryLid z = pairOwned();
        z.swap(0, 1);
        z.swap(1, 0);
        z.chip(1);
        Doc.due("swaps ahead of it, too", z.week(), 14);
        Doc.says(15, "(FREE with WILD, LOAN: nothing of it is used.)");
        Doc.due("wild", z.now(3), 2);
        SalaryLid w = pairOwned();
        w.loan(2);
        w.week();
        Doc.due("loan", w.now(3), 2);
        SalaryLid t = pairOwned();
        t.chip(0);
        weekWith(t, 1);
        Doc.due("with triple it is", t.now(3), 1);
        SalaryLid u = pairOwned();
        u.chip(0);
        Doc.due("triple with two swaps", weekWith(u, 2), 21 - 3);
    }

    // ---- promise 15 ----

    private static void scores() {
        Doc.says(15, "A WEEK is played: SCORE: POINTS of the TEAM (that counts), the captain's once more (twice with TRIPLE),");
        SalaryLid x = Check.told("slots 2 0 0 0;weeks 3;k a 1 3 -99 99;k b 1 20 -99 99;k c 1 99 0 0");
        x.begin(3);
        Doc.due("the captain is the lowest, not the best", x.week(), 3 + 20 + 3);
        x.undo();
        x.captain(1);
        Doc.due("another captain", x.week(), 3 + 20 + 20);
        Doc.due("the fewest", x.week(), -297);
        x.undo();
        x.chip(0);
        Doc.due("the fewest with triple", x.week(), -396);
        Doc.due("triple is over, the most", x.week(), 297);
        x.undo();
        x.undo();
        x.undo();
        x.week();
        x.chip(0);
        Doc.due("the most with triple", x.week(), 396);
        SalaryLid y = Check.told("slots 1 0 0 0;weeks 2;k a 1 0 0;k b 1 1 1");
        y.begin(1);
        Doc.due("0", y.week(), 0);
        y.loan(2);
        Doc.due("the team that counts", y.week(), 2);
        Doc.says(15, "A WEEK is played: SCORE.");
        Doc.due("together", y.now(9), 2);
    }

    private static void scoreOfSwaps() {
        Doc.says(15, "less cost for each SWAP above FREE (none with WILD).");
        for (int cost = 0; cost <= 9; cost++) {
            for (int swaps = 0; swaps <= 3; swaps++) {
                SalaryLid x = Check.told(PAIR.replace("cost 3", "cost " + cost));
                x.begin(1);
                Doc.due(swaps + " swaps, cost " + cost, weekWith(x, swaps), 14 - cost * Math.max(0, swaps - 1));
            }
        }
        SalaryLid y = Check.told(PAIR.replace(";cost 3", ""));
        y.begin(1);
        Doc.due("two swaps, without cost it is 4", weekWith(y, 2), 10);
        SalaryLid z = pairOwned();
        z.chip(1);
        Doc.due("wild", weekWith(z, 9), 14);
    }

    private static void pricesMove() {
        Doc.says(15, "Then FREE as told; then PRICES: of each PLAYER with POINTS of rise or more in that WEEK 1 more,"
            + " with POINTS of fall or less 1 less (both: 1 more),");
        prices("rise 9;fall 1", new int[] {99, 10, 9, 8, 2, 1, 0, -1, -99}, new int[] {51, 51, 51, 50, 50, 49, 49, 49, 49});
        prices("cost 4", new int[] {10, 9, 8, 2, 1, 0}, new int[] {51, 51, 50, 50, 49, 49});
        prices("rise 3;fall 5", new int[] {2, 3, 4, 5, 6}, new int[] {49, 51, 51, 51, 51});
        prices("rise 5;fall 5", new int[] {4, 5, 6}, new int[] {49, 51, 51});
        prices("rise 5;fall 4", new int[] {3, 4, 5, 6}, new int[] {49, 49, 51, 51});
        prices("rise 1;fall 0", new int[] {2, 1, 0, -1}, new int[] {51, 51, 49, 49});
        prices("rise 99;fall 99", new int[] {99, 98, -99}, new int[] {51, 49, 49});
        prices("rise 99;fall 0", new int[] {99, 98, 1, 0}, new int[] {51, 50, 50, 49});
        SalaryLid x = Check.told("slots 1 0 0 0;lid 10;weeks 2;rise 5;k a 10 5 5;k b 10 2 2");
        x.begin(1);
        x.week();
        Doc.due("the worth that is told of the week is that ahead of them", x.tale(0, 5), 10);
        Doc.due("one not owned stays", x.price(2), 10);
        Doc.due("one owned rises", x.price(1), 11);
    }

    private static void prices(String rules, int[] points, int[] want) {
        StringBuilder text = new StringBuilder("slots 1 0 0 0;weeks 1;").append(rules);
        for (int p : points) {
            text.append(";k a 50 ").append(p);
        }
        SalaryLid x = Check.told(text.toString());
        x.begin(1);
        x.week();
        for (int i = 0; i < points.length; i++) {
            Doc.due(rules + ", points " + points[i], Check.player(x, i, 2), want[i]);
        }
    }

    private static void pricesWithin() {
        Doc.says(15, "within 1 to 99.");
        SalaryLid x = Check.told("slots 1 0 0 0;weeks 3;rise 5;fall 1;k a 97 5 5 5;k b 98 5 5 1;k c 99 5 1 5;k d 1 1 5 1;k e 2 1 1 5;k f 3 1 1 1");
        x.begin(8);
        int[][] want = {{97, 98, 99, 1, 2, 3}, {98, 99, 99, 1, 1, 2}, {99, 99, 98, 2, 1, 1}, {99, 98, 99, 1, 2, 1}};
        for (int week = 0; week <= 3; week++) {
            for (int i = 0; i < 6; i++) {
                Doc.due("player " + i + " behind " + week + " weeks", Check.player(x, i, 2), want[week][i]);
            }
            x.week();
        }
    }

    private static void weekRefused() {
        Doc.says(15, "HIDDEN (STATUS 0).");
        SalaryLid x = new SalaryLid();
        Doc.due("no league", x.week(), HIDDEN);
        Doc.due("no league, status", x.status(0), 1);
        for (int weeks = 1; weeks <= 6; weeks++) {
            SalaryLid y = Check.told("slots 1 0 0 0;weeks " + weeks + ";k a 1" + " 3".repeat(weeks));
            Doc.due("not begun", y.week(), HIDDEN);
            y.begin(1);
            for (int week = 0; week < weeks; week++) {
                Doc.due("week " + week + " of " + weeks, y.week(), 6);
            }
            int acts = y.count(1);
            Doc.due("one behind " + weeks, y.week(), HIDDEN);
            Doc.due("status", y.status(0), 2);
            Doc.due("weeks played", y.now(2), weeks);
            Doc.due("no act", y.count(1), acts);
            y.undo();
            Doc.due("the last one undone", y.week(), 6);
        }
    }

    // ---- promise 16 ----

    private static void tale(SalaryLid x, int week, int... want) {
        for (int what = 0; what < want.length; what++) {
            Doc.due("week " + week + ", what " + what, x.tale(week, what), want[what]);
        }
    }

    private static void tales() {
        Doc.says(16, "TALE: of each WEEK played SCORE, TEAM that counted, captain, CHIP (NONE), SWAPS, WORTH as it began to be played.");
        SalaryLid x = Check.told("slots 2 0 0 0;lid 30;weeks 4;cost 2;rise 3;fall 0;k a 10 1 1 1 1;k b 11 2 2 2 2;k c 12 3 3 4 4");
        int[][] want = {{1 + 2 + 1, 3, 0, NONE, 0, 30}, {1 + 2 + 2 - 2, 3, 1, NONE, 3, 30}, {2 + 4 + 4, 6, 2, 2, 0, 30}, {1 + 2 + 2, 3, 0, 0, 0, 30}};
        x.begin(3);
        x.week();
        tale(x, 0, want[0]);
        // The captain is sold for 2, then 2 for 1: three swaps with two free.
        x.swap(0, 2);
        x.swap(1, 0);
        x.swap(2, 1);
        x.week();
        tale(x, 1, want[1]);
        x.loan(6);
        x.week();
        tale(x, 2, want[2]);
        x.captain(0);
        x.chip(0);
        x.week();
        Doc.says(16, "TALE of a WEEK that was played: 0 SCORE, 1 the TEAM, 2 the captain, 3 the CHIP, 4 SWAPS, 5 WORTH.");
        for (int week = 0; week < 4; week++) {
            tale(x, week, want[week]);
        }
        SalaryLid y = Check.told("slots 1 0 0 0;lid 9;weeks 3;rise 5;fall 1;k a 5 5 1 1");
        y.begin(1);
        int[] worth = {9, 9, 9};
        for (int week = 0; week < 3; week++) {
            y.week();
            Doc.due("worth ahead of week " + week, y.tale(week, 5), worth[week]);
        }
        Doc.due("worth behind them", y.now(1), 8);
    }

    private static void talesHidden() {
        Doc.says(16, "HIDDEN: no such ones.");
        SalaryLid x = Check.told(PAIR);
        Doc.due("no league", new SalaryLid().tale(0, 0), HIDDEN);
        Doc.due("not begun", x.tale(0, 0), HIDDEN);
        x.begin(1);
        Doc.due("begun, none was played", x.tale(0, 0), HIDDEN);
        for (int played = 1; played <= 6; played++) {
            x.week();
            Doc.bounds("of " + played + " played, week", week -> x.tale(week, 0), 0, played - 1, HIDDEN);
            Doc.bounds("of " + played + " played, what", what -> x.tale(0, what), 0, 5, HIDDEN);
        }
        x.undo();
        Doc.bounds("one undone, week", week -> x.tale(week, 0), 0, 4, HIDDEN);
    }
}
