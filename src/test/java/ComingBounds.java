/** Promises 24 to 27 and 31: the best swaps, the plan, prices and worth to come. */
final class ComingBounds {
    private static final int NONE = SalaryLid.NONE;
    private static final int HIDDEN = SalaryLid.HIDDEN;

    private ComingBounds() {
    }

    static void run() {
        bestSwapGain();
        bestSwapThatCanBe();
        bestSwapHidden();
        twoSwapsMoney();
        twoSwapsTeam();
        twoSwapsHidden();
        pricesThen();
        worthThen();
        planUnderWorth();
        planByPricesAsNow();
        planOwnedIsNoChoice();
        planSwaps();
        planSwapsDone();
        planFree();
        planChips();
        planLoan();
        planChipsToCome();
        planChipsOnce();
        planLeastRow();
        planChipOfThisWeek();
        planOfForty();
        planOfNone();
        planHidden();
    }

    private static SalaryLid owned(String text, int team) {
        SalaryLid x = Check.told(text);
        Doc.due("begun", x.begin(team) >= 0, true);
        return x;
    }

    // ---- promise 24 ----

    private static void bestSwap(String when, SalaryLid x, int... want) {
        for (int what = 0; what < 3; what++) {
            Doc.due(when + ", what " + what, x.bestSwap(what), want.length == 0 ? HIDDEN : want[what]);
        }
    }

    private static void bestSwapGain() {
        Doc.says(24, "GAIN of a SWAP: how many more POINTS the one bought has, in all WEEKS from now on, than the one sold (captains aside).");
        SalaryLid x = owned("slots 1 0 0 0;rise 99;fall 0;k a 5 9 1 3;k b 5 1 2 4;k c 5 1 1 6", 1);
        bestSwap("three weeks", x, 0, 2, -5);
        x.week();
        bestSwap("two weeks", x, 0, 2, 3);
        x.week();
        bestSwap("one week", x, 0, 2, 3);
        Doc.says(24, "The best SWAP: the most GAIN (of several the lowest sold, then the lowest bought) of all that can be now.");
        String text = "slots 2 0 0 0;weeks 1;k a 5 3;k b 5 3;k c 5 4;k d 5 ";
        bestSwap("one fewer", owned(text + 3, 3), 0, 2, 1);
        bestSwap("as many", owned(text + 4, 3), 0, 2, 1);
        bestSwap("one more", owned(text + 5, 3), 0, 3, 2);
        bestSwap("the second one has fewer", owned("slots 2 0 0 0;weeks 1;k a 5 3;k b 5 2;k c 5 4;k d 5 4", 3), 1, 2, 2);
        bestSwap("no gain at all", owned("slots 2 0 0 0;weeks 1;k a 5 3;k b 5 3;k c 5 3", 3), 0, 2, 0);
        bestSwap("the least loss", owned("slots 1 0 0 0;weeks 1;k a 5 3;k b 5 1;k c 5 2", 1), 0, 2, -1);
        bestSwap("the most", owned("slots 1 0 0 0;weeks 1;k a 5 -99;k b 5 99", 1), 0, 1, 198);
        Doc.says(24, "The best SWAP: 0 who is sold, 1 who is bought, 2 its GAIN.");
        bestSwap("the lowest is bought", owned("slots 1 0 0 0;weeks 1;k a 5 3;k b 5 1;k c 5 2", 2), 1, 0, 2);
        bestSwap("the highest of sixteen", owned("slots 1 0 0 0;weeks 1" + ";k a1 1".repeat(15) + ";k a1 2", 1 << 14), 14, 15, 1);
    }

    private static void bestSwapThatCanBe() {
        int[][] want = {{}, {0, 1, 4}, {0, 2, 8}, {0, 2, 8}};
        for (int lid = 5; lid <= 8; lid++) {
            bestSwap("lid " + lid, owned("slots 1 0 0 0;lid " + lid + ";weeks 1;k a 5 1;k b 6 5;k c 7 9", 1), want[lid - 5]);
        }
        // Sold for 9 and half of what it rose: 9, 9, 10.
        SalaryLid x = owned("slots 1 0 0 0;lid 9;weeks 3;rise 5;fall 0;k a 9 5 5 5;k b 10 1 1 9", 1);
        bestSwap("10 with 9", x);
        x.week();
        bestSwap("10 with 9 and half of 1", x);
        x.week();
        bestSwap("10 with 9 and half of 2", x, 0, 1, 4);
        bestSwap("another place", owned("slots 1 0 0 0;weeks 1;k a 5 1;b a 5 9", 1));
        bestSwap("a club", owned("slots 2 0 0 0;club 1;weeks 1;k a 5 1;k b 5 2;k b 5 9", 3), 1, 2, 7);
        SalaryLid y = owned("slots 2 0 0 0;weeks 1;k a 5 1;k b 5 2;k c 5 9;k d 5 8", 3);
        y.swap(0, 2);
        bestSwap("behind a swap", y, 1, 3, 6);
    }

    private static void bestSwapHidden() {
        Doc.says(24, "HIDDEN: none can be, not BEGUN, all WEEKS are played, no such what.");
        SalaryLid x = Check.told("slots 1 0 0 0;weeks 2;k a 5 1 1;k b 5 2 2");
        bestSwap("no league", new SalaryLid());
        bestSwap("not begun", x);
        x.begin(1);
        Doc.bounds("what", x::bestSwap, 0, 2, HIDDEN);
        x.loan(1);
        bestSwap("on loan", x);
        x.week();
        bestSwap("the last week", x, 0, 1, 1);
        x.week();
        bestSwap("all weeks are played", x);
        bestSwap("nobody to buy", owned("slots 1 0 0 0;weeks 1;k a 5 1", 1));
    }

    // ---- promise 31 ----

    private static void twoSwaps(String when, SalaryLid x, int... want) {
        for (int what = 0; what < 5; what++) {
            Doc.due(when + ", what " + what, x.twoSwaps(what), want.length == 0 ? HIDDEN : want[what]);
        }
    }

    private static void twoSwapsMoney() {
        Doc.says(31, "TWO SWAPS: one behind the other that can be done now in this WEEK (the second one with the MONEY, the TEAM that the first one leaves;"
            + " one bought may be sold again): the most GAIN together; of several the least row: sold, bought, sold, bought.");
        String text = ";weeks 1;k a 5 1;k b 5 1;k c 6 5;k d 6 4";
        twoSwaps("lid 10", owned("slots 2 0 0 0;lid 10" + text, 3));
        twoSwaps("lid 11", owned("slots 2 0 0 0;lid 11" + text, 3), 0, 2, 1, 0, 4);
        twoSwaps("lid 12", owned("slots 2 0 0 0;lid 12" + text, 3), 0, 2, 1, 3, 7);
        twoSwaps("the first one pays the second", owned("slots 1 1 0 0;lid 10;weeks 1;k a 5 1;k b 7 9;b a 5 5;b c 3 4", 5), 2, 3, 0, 1, 7);
        twoSwaps("one too few for it", owned("slots 1 1 0 0;lid 10;weeks 1;k a 5 1;k b 7 9;b a 5 5;b c 4 4", 5), 2, 3, 3, 2, 0);
        // One that has risen costs more than it brought.
        SalaryLid x = owned("slots 1 0 0 0;lid 9;weeks 2;rise 5;fall 0;k a 9 5 1;k b 9 1 2", 1);
        x.week();
        Doc.due("one swap can be", x.bestSwap(2), 1);
        twoSwaps("not back again", x);
        SalaryLid y = owned("slots 1 0 0 0;lid 9;weeks 2;rise 6;fall 0;k a 9 5 1;k b 9 1 2", 1);
        y.week();
        twoSwaps("there and back", y, 0, 1, 1, 0, 0);
        // One just bought is sold for what it cost.
        twoSwaps("one bought is sold again", owned("slots 1 0 0 0;lid 9;weeks 1;k a 9 1;k b 9 2;k c 9 7", 1), 0, 1, 1, 2, 6);
    }

    private static void twoSwapsTeam() {
        twoSwaps("a club", owned("slots 2 0 0 0;club 1;weeks 1;k a 5 1;k b 5 1;k b 5 5;k a 5 5", 3), 0, 3, 1, 2, 8);
        twoSwaps("the first one makes room for the club", owned("slots 2 0 0 0;club 1;weeks 1;k a 5 1;k b 5 1;k c 5 0;k a 5 9;k b 5 9", 3), 0, 3, 1, 4, 16);
        twoSwaps("a loss first", owned("slots 1 1 0 0;club 1;weeks 1;k a 5 3;k b 5 9;b b 5 3;b c 5 1", 5), 2, 3, 0, 1, 4);
        twoSwaps("the least row of several", owned("slots 2 0 0 0;weeks 1;k a 5 1;k b 5 1;k c 5 3;k d 5 3", 3), 0, 2, 1, 3, 4);
        SalaryLid x = owned("slots 1 0 0 0;rise 99;fall 0;k a 5 9 9 1;k b 5 1 1 2;k c 5 1 1 3", 1);
        twoSwaps("all weeks from now on", x, 0, 1, 1, 0, 0);
        x.week();
        x.week();
        twoSwaps("the last week", x, 0, 1, 1, 2, 2);
        Doc.says(31, "TWO SWAPS: 0 who is sold first, 1 bought, 2 sold second, 3 bought, 4 GAIN together.");
        twoSwaps("the lowest is bought first", owned("slots 2 0 0 0;weeks 1;k a 5 3;k b 5 3;k c 5 1;k d 5 1", 12), 2, 0, 3, 1, 4);
        twoSwaps("the most", owned("slots 2 0 0 0;weeks 1;k a 5 -99;k b 5 -99;k c 5 99;k d 5 99", 3), 0, 2, 1, 3, 396);
    }

    private static void twoSwapsHidden() {
        Doc.says(31, "HIDDEN: none can be, not BEGUN, all WEEKS are played, no such what.");
        SalaryLid x = Check.told("slots 1 0 0 0;weeks 2;k a 5 1 1;k b 5 2 2");
        twoSwaps("no league", new SalaryLid());
        twoSwaps("not begun", x);
        x.begin(1);
        Doc.bounds("what", x::twoSwaps, 0, 4, HIDDEN);
        x.loan(1);
        twoSwaps("on loan", x);
        x.week();
        twoSwaps("the last week", x, 0, 1, 1, 0, 0);
        x.week();
        twoSwaps("all weeks are played", x);
        twoSwaps("nobody to buy", owned("slots 1 0 0 0;weeks 1;k a 5 1", 1));
    }

    // ---- promises 26 and 27 ----

    private static void pricesThen() {
        Doc.says(26, "FORETOLD behind a WEEK: PRICES as all WEEKS to that one move them, from those that were told on.");
        String text = "slots 1 0 0 0;weeks 6;rise 5;fall 1;k a 97 5 5 5 5 4 1;k b 3 1 1 1 1 2 5;k c 50 4 5 2 1 5 1";
        int[][] want = {{98, 99, 99, 99, 99, 98}, {2, 1, 1, 1, 1, 2}, {50, 51, 51, 50, 51, 50}};
        SalaryLid x = Check.told(text);
        for (int played = 0; played <= 6; played++) {
            for (int i = 0; i < 3; i++) {
                for (int week = 0; week < 6; week++) {
                    Doc.due("player " + i + " behind " + week + ", " + played + " played", x.priceThen(i, week), want[i][week]);
                }
                if (played > 0) {
                    Doc.due("it came so", Check.player(x, i, 2), want[i][played - 1]);
                }
            }
            x.begin(1);
            x.week();
        }
        Doc.says(26, "FORETOLD: the PRICE of a PLAYER behind a WEEK.");
        SalaryLid z = Check.told("slots 1 0 0 0;weeks 2;rise 5;fall 1;k a 5 4 5;k b 5 5 6;k c 5 2 1;k d 5 1 0");
        int[][] then = {{5, 6}, {6, 7}, {5, 4}, {4, 3}};
        for (int i = 0; i < 4; i++) {
            Doc.due("player " + i + " behind week 0", z.priceThen(i, 0), then[i][0]);
            Doc.due("player " + i + " behind week 1", z.priceThen(i, 1), then[i][1]);
        }
        Doc.says(26, "NONE: no such ones.");
        Doc.bounds("player", i -> x.priceThen(i, 0), 0, 2, NONE);
        Doc.bounds("week", week -> x.priceThen(0, week), 0, 5, NONE);
        SalaryLid y = Check.told("slots 1 0 0 0;weeks 1;k a 5 1");
        Doc.bounds("the only player", i -> y.priceThen(i, 0), 0, 0, NONE);
        Doc.bounds("the only week", week -> y.priceThen(0, week), 0, 0, NONE);
        Doc.due("no league", new SalaryLid().priceThen(0, 0), NONE);
    }

    private static void worthThen() {
        Doc.says(27, "FORETOLD: MONEY now and what all PLAYERS owned now would bring behind a WEEK, together.");
        SalaryLid x = owned("slots 2 0 0 0;lid 30;weeks 4;rise 5;fall 1;k a 10 5 5 5 5;k b 10 1 2 1 5;k c 10 2 2 2 5", 3);
        int[] want = {10 + 10 + 9, 10 + 11 + 9, 10 + 11 + 8, 10 + 12 + 9};
        for (int week = 0; week < 4; week++) {
            Doc.due("behind " + week, x.worthThen(week), want[week]);
        }
        x.swap(0, 2);
        Doc.due("owned now", x.worthThen(3), 10 + 10 + 9);
        x.undo();
        for (int week = 0; week < 4; week++) {
            Doc.due("the next one", x.worthThen(week), want[week]);
            x.week();
            Doc.due("it came so", x.now(1), want[week]);
        }
        // Bought behind two weeks at 12: it rises from there.
        SalaryLid y = owned("slots 1 0 0 0;lid 30;weeks 4;rise 5;fall 1;k a 10 5 5 5 5;k b 10 2 2 2 2", 2);
        y.week();
        y.week();
        y.swap(1, 0);
        Doc.due("behind 2, bought at 12", y.worthThen(2), 18 + 12);
        Doc.due("behind 3, bought at 12", y.worthThen(3), 18 + 13);
        Doc.says(27, "HIDDEN: not BEGUN, no such WEEK, it was played.");
        Doc.bounds("two were played, week", y::worthThen, 2, 3, HIDDEN);
        SalaryLid z = Check.told("slots 1 0 0 0;weeks 3;k a 5 1 1 1");
        Doc.due("not begun", z.worthThen(0), HIDDEN);
        z.begin(1);
        for (int played = 0; played < 3; played++) {
            Doc.bounds(played + " were played, week", z::worthThen, played, 2, HIDDEN);
            z.week();
        }
        Doc.due("all were played", z.worthThen(2), HIDDEN);
        Doc.due("all were played, one more", z.worthThen(3), HIDDEN);
        z.undo();
        Doc.bounds("the last one undone, week", z::worthThen, 2, 2, HIDDEN);
        Doc.due("no league", new SalaryLid().worthThen(0), HIDDEN);
    }

    // ---- promise 25 ----

    /** Pairs of what and answer. */
    private static void plan(String when, SalaryLid x, int... want) {
        for (int k = 0; k + 1 < want.length; k += 2) {
            Doc.due(when + ", plan " + want[k], x.plan(want[k]), want[k + 1]);
        }
    }

    private static void planUnderWorth() {
        Doc.says(25, "of each WEEK a TEAM of those with PRICES together no more than WORTH (the one that is owned only if it is one of these),"
            + " its best captain, a CHIP that wasn't played or none.");
        int[][] want = {{3, 1, 1}, {15, 2, 2}, {27, 3, 4}, {27, 3, 4}};
        for (int lid = 5; lid <= 8; lid++) {
            SalaryLid x = owned("slots 1 0 0 0;lid " + lid + ";weeks 1;k a 5 1;k b 6 5;k c 7 9", 1);
            int[] row = want[lid - 5];
            plan("worth " + lid, x, 0, row[0], 1, row[1], 10, row[2], 20, 0);
        }
        // He costs 6 then and brings 5, so he is no choice; with 4 points he doesn't rise.
        SalaryLid y = owned("slots 1 0 0 0;lid 5;weeks 2;rise 5;k a 5 5 9;k b 5 2 1", 1);
        y.week();
        plan("owned is none of these", y, 0, 3, 1, 1, 11, 2, 21, 0);
        SalaryLid z = owned("slots 1 0 0 0;lid 5;weeks 2;rise 5;k a 5 4 9;k b 5 2 1", 1);
        z.week();
        plan("owned is one of these", z, 0, 27, 1, 2, 11, 1, 21, 0);
        plan("its best captain", owned("slots 2 0 0 0;weeks 2;k a 5 1 7;k b 5 6 2", 3), 0, 7 + 6 + 9 + 14, 20, NONE, 21, 0);
    }

    private static void planByPricesAsNow() {
        Doc.says(25, "PLAN: for all WEEKS from now on, as if PRICES stayed as now and each PLAYER was sold and bought at its PRICE:");
        SalaryLid x = owned("slots 1 0 0 0;lid 5;weeks 3;rise 5;k a 5 5 5 5;k b 5 2 2 2", 1);
        plan("he would rise above the worth", x, 0, 35, 1, 2, 10, 1, 11, 1, 12, 1, 20, NONE, 21, NONE, 22, 0);
        SalaryLid y = owned("slots 1 0 0 0;lid 5;weeks 2;rise 99;fall 1;k a 5 2 2;k b 6 1 9", 1);
        plan("another one would fall to it", y, 0, 4 + 6, 1, 1, 10, 1, 11, 1);
        y.week();
        plan("he has fallen to it", y, 0, 27, 1, 2, 11, 2);
        // The worth is 10 and half of what it rose, the price 12: with another one for 11.
        SalaryLid z = owned("slots 1 0 0 0;lid 10;weeks 3;rise 5;fall 0;k a 10 5 5 1;k b 11 1 1 4;k c 12 1 1 9", 1);
        z.week();
        z.week();
        plan("under what it brings", z, 0, 12, 1, 1, 12, 2, 22, 0);
    }

    /** The team owned is too dear for the worth, but swaps are counted from it. */
    private static void planOwnedIsNoChoice() {
        // All three rise to 6 and bring 5: three swaps with two free.
        String apart = "slots 3 0 0 0;lid 15;weeks 3;rise 9;k a5 9 9 9;k b5 9 9 9;k c5 9 9 9;k d5 2 5 5;k e5 2 5 5;k f5 2 5 5";
        SalaryLid x = owned(apart, 7);
        x.week();
        plan("none of them is a choice", x, 0, 20 + 25, 1, 1, 11, 56, 12, 56, 21, 1, 22, 0);
        x.chip(0);
        plan("triple now", x, 0, 25 - 4 + 20, 11, 56, 21, 0, 12, 56, 22, NONE);
        x.undo();
        x.loan(56);
        plan("the one owned stays behind the loan", x, 0, 20 + 25 - 4, 11, 56, 21, 2, 12, 56, 22, 0);
        // The third stays at 5, so that he is in the only choice: two swaps, both free.
        String shared = "slots 3 0 0 0;lid 15;weeks 2;rise 9;k a5 9 9;k b5 9 9;k c5 2 5;k d5 2 5;k e5 2 5";
        SalaryLid y = owned(shared, 7);
        y.week();
        plan("one of them is", y, 0, 25, 1, 1, 11, 28, 21, 0);
        SalaryLid z = owned(shared, 7);
        z.swap(2, 3);
        z.swap(3, 2);
        z.week();
        plan("one of them is, with one free", z, 0, 25 - 4, 1, 1, 11, 28, 21, 0);
    }

    private static String swapsText(int points) {
        return "slots 2 0 0 0;weeks 1;k a 1 1;k b 1 1;k c 1 " + points + ";k d 1 " + points;
    }

    private static void planSwaps() {
        Doc.says(25, "SWAPS of a WEEK: PLAYERS of its TEAM that weren't in that of the WEEK ahead (for the first one: that is owned; SWAPS done in this WEEK count, too);");
        // One swap is free, two cost 4: 1 + 3p with triple, or 4p - 4 with triple, or 3p with wild.
        plan("points 3", owned(swapsText(3), 3), 0, 10, 10, 5, 20, 0);
        plan("points 4", owned(swapsText(4), 3), 0, 13, 10, 5, 20, 0);
        plan("points 5", owned(swapsText(5), 3), 0, 16, 10, 5, 20, 0);
        plan("points 6", owned(swapsText(6), 3), 0, 20, 10, 12, 20, 0);
        plan("points 7", owned(swapsText(7), 3), 0, 24, 10, 12, 20, 0);
    }

    private static void planSwapsDone() {
        SalaryLid x = owned(swapsText(5), 3);
        x.swap(0, 2);
        plan("one swap done, points 5", x, 0, 16, 10, 6, 20, 0);
        SalaryLid y = owned(swapsText(6), 3);
        y.swap(0, 2);
        plan("one swap done, points 6", y, 0, 20, 10, 12, 20, 0);
        // Back again, but two swaps are done: 4 are lost but with wild.
        SalaryLid z = owned(swapsText(5), 3);
        z.swap(0, 2);
        z.swap(2, 0);
        plan("two swaps done", z, 0, 15, 10, 12, 20, 1);
        z.chip(0);
        plan("two swaps done with triple", z, 0, 8, 10, 5, 20, 0);
    }

    /** All chips are played in three weeks; so many swaps in the last of these leave 2 or 1 free. */
    private static SalaryLid chipless(String text, int team, int swaps) {
        SalaryLid x = owned(text, team);
        x.loan(team);
        x.week();
        x.chip(1);
        x.week();
        x.chip(0);
        for (int k = 0; k < swaps; k++) {
            x.swap(k % 2 == 0 ? 0 : 2, k % 2 == 0 ? 2 : 0);
        }
        x.week();
        Doc.due("the team", x.now(6), team);
        return x;
    }

    private static void planFree() {
        Doc.says(25, "FREE, CHIPS as told (no LOAN in this WEEK behind a SWAP);");
        for (int cost = 4; cost <= 7; cost++) {
            String text = "slots 2 0 0 0;weeks 5;cost " + cost + ";rise 99;fall 0;k a 1 2 2 2 0 0;k b 1 2 2 2 0 0;k c 1 2 2 2 6 6;k d 1 2 2 2 6 6";
            SalaryLid x = chipless(text, 3, 0);
            Doc.due("free", x.now(3), 2);
            plan("two free, cost " + cost, x, 0, 36, 13, 12, 14, 12, 23, NONE, 24, NONE);
            SalaryLid y = chipless(text, 3, 2);
            Doc.due("free", y.now(3), 1);
            plan("one free, cost " + cost, y, 0, Math.max(30, 36 - cost), 13, cost < 6 ? 12 : 5, 14, 12, 23, NONE, 24, NONE);
        }
        String later = "slots 2 0 0 0;weeks 5;cost 9;rise 99;fall 0;k a 1 2 2 2 5 0;k b 1 2 2 2 5 0;k c 1 2 2 2 4 6;k d 1 2 2 2 4 6";
        plan("what is left stays for the next week", chipless(later, 3, 2), 0, 33, 13, 3, 14, 12);
        String three = "slots 3 0 0 0;weeks 5;cost 3;rise 99;fall 0;k a1 2 2 2 5 0;k b1 2 2 2 5 0;k c1 2 2 2 5 0"
            + ";k d1 2 2 2 0 6;k e1 2 2 2 0 6;k f1 2 2 2 0 6";
        plan("two free at most, the third one costs", chipless(three, 7, 0), 0, 20 + 24 - 3, 13, 7, 14, 56);
        SalaryLid w = owned("slots 1 0 0 0;weeks 3;cost 9;k a 1 2 2 1;k b 1 2 2 1;k c 1 2 2 9", 1);
        w.chip(1);
        w.week();
        w.chip(0);
        w.week();
        w.swap(0, 1);
        w.swap(1, 0);
        plan("no loan behind swaps, a third one costs", w, 0, 18 - 9, 12, 4, 22, NONE);
        w.undo();
        w.undo();
        plan("the swaps undone", w, 0, 18, 12, 4, 22, NONE);
        planFreeIsUsedUp();
    }

    private static void planFreeIsUsedUp() {
        // Both free swaps go to week 3, so one is left in week 4: a second one would cost 9 and bring 6.
        String text = "slots 2 0 0 0;weeks 5;cost 9;rise 99;fall 0;k a 1 2 2 2 9 0;k b 1 2 2 2 9 0;k c 1 2 2 2 0 6;k d 1 2 2 2 0 6";
        plan("free is used up", chipless(text, 12, 0), 0, 27 + 12, 13, 3, 14, 5, 23, NONE, 24, NONE);
        // One swap was done, wild and triple were played: loan would bring 18 more.
        SalaryLid x = owned("slots 2 0 0 0;weeks 3;cost 9;rise 99;fall 0;k a 1 2 2 0;k b 1 2 2 0;k c 1 2 2 6;k d 1 2 2 6;k e 1 2 2 0", 3);
        x.chip(1);
        x.week();
        x.chip(0);
        x.swap(0, 4);
        x.swap(4, 0);
        x.week();
        Doc.due("one is free", x.now(3), 1);
        plan("loan with no swap done", x, 0, 18, 12, 12, 22, 2);
        x.swap(0, 4);
        plan("no loan behind one swap", x, 0, 12 - 9, 12, 6, 22, NONE);
    }

    private static void planChips() {
        SalaryLid x = owned("slots 1 0 0 0;weeks 4;k a 5 3 3 3 3", 1);
        plan("triple to come", x, 0, 27, 23, 0);
        x.chip(0);
        plan("triple now", x, 0, 27, 20, 0, 23, NONE);
        x.week();
        plan("triple was played", x, 0, 18, 21, NONE, 22, NONE, 23, NONE);
        x.undo();
        x.undo();
        x.week();
        plan("triple is there still", x, 0, 21, 21, NONE, 22, NONE, 23, 0);
    }

    private static void planLoan() {
        Doc.says(25, "with LOAN any of these TEAMS counts, no SWAP is done, the one ahead stays for the next WEEK.");
        String text = "slots 2 0 0 0;weeks 3;cost 9;rise 99;fall 0;k a 1 2 0 9;k b 1 2 0 9;k c 1 2 8 0;k d 1 2 8 0";
        SalaryLid x = owned(text, 3);
        x.chip(1);
        x.week();
        plan("loan, then the one ahead without a swap", x, 0, 24 + 36, 11, 12, 21, 2, 12, 3, 22, 0);
        // No loan behind swaps: one more for 9, then the free one back.
        x.swap(0, 2);
        x.swap(2, 0);
        plan("no loan behind swaps", x, 0, 16 - 9 + 36, 11, 5, 21, NONE, 12, 3, 22, 0);
        SalaryLid z = owned(text, 3);
        z.loan(3);
        z.week();
        plan("loan was played", z, 0, 24 + 36, 11, 12, 21, 1, 12, 3, 22, 0);
    }

    /** Two chips are played, then the points go to the others for a week in the middle. */
    private static SalaryLid middle(int team, boolean triple, boolean wild) {
        SalaryLid x = owned("slots 3 0 0 0;weeks 5;cost 9;rise 99;fall 0;k a1 2 2 9 0 7;k b1 2 2 9 0 7;k c1 2 2 9 0 7"
            + ";k d1 2 2 0 9 0;k e1 2 2 0 9 0;k f1 2 2 0 9 0", team);
        if (triple) {
            x.chip(0);
        }
        x.week();
        if (wild) {
            x.chip(1);
        } else {
            x.loan(team);
        }
        x.week();
        return x;
    }

    private static void planChipsToCome() {
        Doc.says(25, "FREE, CHIPS as told (no LOAN in this WEEK behind a SWAP);");
        // Behind wild two are free, a third one would cost 9 and bring 7.
        plan("wild in the week between", middle(7, true, false), 0, 36 + 36 + 21, 12, 7, 22, NONE, 13, 56, 23, 1, 14, 11, 24, NONE);
        plan("loan in the week between", middle(7, true, true), 0, 36 + 36 + 28, 12, 7, 22, NONE, 13, 56, 23, 2, 14, 7, 24, NONE);
        plan("triple and wild", middle(7, false, false), 0, 45 + 36 + 21, 12, 7, 22, 0, 13, 56, 23, 1, 14, 11, 24, NONE);
        plan("triple and loan", middle(7, false, true), 0, 45 + 36 + 28, 12, 7, 22, 0, 13, 56, 23, 2, 14, 7, 24, NONE);
    }

    private static void planChipsOnce() {
        // By turns the points go to the others, but loan can be once alone: two free swaps, the loan back, one swap.
        SalaryLid x = owned("slots 3 0 0 0;weeks 6;cost 9;rise 99;fall 0" + ";k a1 2 2 9 0 9 0".repeat(3) + ";k b1 2 2 0 9 0 9".repeat(3), 7);
        x.chip(0);
        x.week();
        x.chip(1);
        x.week();
        plan("loan once", x, 0, 36 + 27 + 36 + 36, 12, 7, 22, NONE, 13, 25, 23, NONE, 14, 7, 24, 2, 15, 56, 25, NONE);
        // Triple in the middle, then wild: all three of them are to come.
        SalaryLid y = owned("slots 3 0 0 0;weeks 3;cost 9;rise 99;fall 0" + ";k a1 2 9 0".repeat(3) + ";k b1 0 0 9".repeat(3), 7);
        plan("triple, then wild", y, 0, 8 + 45 + 36, 10, 7, 20, NONE, 11, 7, 21, 0, 12, 56, 22, 1);
        // The others are the lowest team here.
        SalaryLid z = owned("slots 3 0 0 0;weeks 5;cost 9;rise 99;fall 0" + ";k a1 2 2 0 9 0".repeat(3) + ";k b1 2 2 9 0 7".repeat(3), 56);
        z.chip(0);
        z.week();
        z.loan(56);
        z.week();
        plan("wild to the lowest team", z, 0, 36 + 36 + 21, 12, 56, 22, NONE, 13, 7, 23, 1, 14, 25, 24, NONE);
    }

    private static void planLeastRow() {
        Doc.says(25, "The most SCORE together; of several the least row: of each WEEK in turn first its TEAM (that counts) as bits,"
            + " then its CHIP (none ahead of 0, 1, 2).");
        plan("all alike", owned("slots 1 0 0 0;weeks 2;k a 5 0 0;k b 5 0 0", 2), 0, 0, 10, 1, 20, NONE, 11, 1, 21, NONE);
        plan("one fewer", owned("slots 1 0 0 0;weeks 1;k a 5 -1;k b 5 0", 2), 0, 0, 10, 2, 20, NONE);
        plan("below 0 no triple", owned("slots 1 0 0 0;weeks 1;k a 5 -1", 1), 0, -2, 10, 1, 20, NONE);
        plan("above 0 triple", owned("slots 1 0 0 0;weeks 1;k a 5 1", 1), 0, 3, 10, 1, 20, 0);
        plan("triple as late as can be", owned("slots 1 0 0 0;weeks 3;k a 5 4 4 3", 1), 0, 26, 20, NONE, 21, 0, 22, NONE);
        // Wild and loan bring the same, wild stands ahead.
        plan("wild ahead of loan", owned("slots 2 0 0 0;weeks 2;cost 9;k a 1 0 8;k b 1 0 8;k c 1 8 0;k d 1 8 0", 3),
            0, 24 + 32, 10, 12, 20, 1, 11, 3, 21, 0);
        // None, wild and loan bring the same where the team stays.
        plan("none ahead of all", owned("slots 1 0 0 0;weeks 1;k a 5 0", 1), 0, 0, 20, NONE);
    }

    private static void planChipOfThisWeek() {
        Doc.says(25, "If a CHIP was played in this WEEK, it is this WEEK's (with LOAN the TEAM as well).");
        String text = "slots 1 0 0 0;weeks 2;cost 4;rise 99;fall 0;k a 5 3 10;k b 5 6 1";
        plan("none was", owned(text, 1), 0, 12 + 30, 10, 2, 20, NONE, 11, 1, 21, 0);
        SalaryLid x = owned(text, 1);
        x.chip(0);
        plan("triple", x, 0, 18 + 20, 10, 2, 20, 0, 11, 1, 21, NONE);
        SalaryLid y = owned(text, 1);
        y.chip(1);
        plan("wild", y, 0, 12 + 30, 10, 2, 20, 1, 11, 1, 21, 0);
        SalaryLid z = owned(text, 1);
        z.loan(1);
        plan("loan of the worse one", z, 0, 6 + 30, 10, 1, 20, 2, 11, 1, 21, 0);
        z.undo();
        z.loan(2);
        plan("loan of the better one", z, 0, 12 + 30, 10, 2, 20, 2, 11, 1, 21, 0);
        z.week();
        plan("in the next week none is", z, 0, 30, 11, 1, 21, 0);
    }

    /** One keeper and one back of so many; of the dear ones the first two together cost 100. */
    private static SalaryLid pairs(int keepers, int backs, int dear, int lid) {
        String text = "slots 1 1 0 0;lid " + lid + ";weeks 1;k a" + dear + " 1" + ";k a1 1".repeat(keepers - 1)
            + ";b a" + dear + " 1" + ";b a1 1".repeat(backs - 1);
        return owned(text, 2 | 2 << keepers);
    }

    private static void planOfForty() {
        Doc.says(25, "Only if no more than 40 such TEAMS are there.");
        plan("39", pairs(5, 8, 50, 99), 1, 39, 0, 4, 10, 2 | 1 << 5, 20, 0);
        plan("40", pairs(5, 8, 50, 100), 1, 40, 0, 4, 10, 2 | 1 << 5, 20, 0);
        Doc.says(25, "-2: more than 40;");
        plan("41", pairs(6, 7, 50, 99), 1, 41, 0, -2, 10, -2, 20, -2, 2, HIDDEN, 9, HIDDEN, 11, HIDDEN, 21, HIDDEN, -1, HIDDEN);
        plan("42", pairs(6, 7, 50, 100), 1, 42, 0, -2, 10, -2, 20, -2);
        SalaryLid x = owned("slots 3 3 0 0;weeks 1" + ";k a1 1".repeat(8) + ";b b1 1".repeat(8), 7 | 7 << 8);
        plan("3136", x, 1, 3136, 0, -2, 10, -2, 20, -2);
        planOfFortyAndOwned();
    }

    /** Forty choices, six weeks, and the team owned is one more: as much as a plan can have. */
    private static void planOfFortyAndOwned() {
        String text = "slots 1 1 0 0;weeks 6" + ";k a50 2 2 2 2 2 2".repeat(4) + ";k a50 2 2 2 2 2 7;k a50 9 2 2 2 2 2"
            + ";b a49 2 2 2 2 2 2".repeat(7) + ";b a49 2 2 2 2 2 7;b a49 9 2 2 2 2 2";
        SalaryLid x = owned(text, 1 << 5 | 1 << 14);
        plan("all of them", x, 1, 54, 0, -2);
        x.week();
        int low = 1 | 1 << 6;
        plan("forty, six weeks", x, 1, 40, 0, 4 * 6 + 28, 11, low, 12, low, 13, low, 14, low, 15, 1 << 4 | 1 << 13,
            21, NONE, 22, NONE, 23, NONE, 24, NONE, 25, 0);
        x.loan(low);
        plan("the one owned stays", x, 0, 4 * 6 + 28, 11, low, 21, 2, 12, low, 15, 1 << 4 | 1 << 13, 25, 0);
    }

    private static void planOfNone() {
        Doc.says(25, "-3: there is no such TEAM (what 1 tells how many in any case, 0, too).");
        SalaryLid x = owned("slots 1 0 0 0;lid 5;weeks 3;rise 1;k a 5 1 1 1", 1);
        plan("one", x, 1, 1, 0, 7, 10, 1, 20, NONE, 22, 0);
        x.week();
        plan("none", x, 1, 0, 0, -3, 11, -3, 12, -3, 21, -3, 22, -3, 10, HIDDEN, 13, HIDDEN, 20, HIDDEN, 23, HIDDEN, 2, HIDDEN);
        x.undo();
        plan("one again", x, 1, 1, 0, 7);
    }

    private static void planHidden() {
        Doc.says(25, "PLAN: 0 its SCORE, 1 how many TEAMS there are to choose from; 10 and w the TEAM of WEEK w, 20 and w the CHIP (NONE).");
        for (int weeks = 1; weeks <= 6; weeks++) {
            SalaryLid x = owned("slots 1 0 0 0;weeks " + weeks + ";k a 5" + " 1".repeat(weeks), 1);
            for (int played = 0; played < weeks; played++) {
                int left = weeks - played;
                plan(left + " weeks of " + weeks, x, 0, 2 * left + 1, 1, 1);
                Doc.bounds("team of " + left + " weeks of " + weeks, w -> w > 19 ? HIDDEN : x.plan(w), 10 + played, 9 + weeks, HIDDEN);
                Doc.bounds("chip of " + left + " weeks of " + weeks, w -> w < 19 ? HIDDEN : x.plan(w), 20 + played, 19 + weeks, HIDDEN);
                for (int w = played; w < weeks; w++) {
                    plan("week " + w, x, 10 + w, 1, 20 + w, w == weeks - 1 ? 0 : NONE);
                }
                x.week();
            }
            Doc.says(25, "HIDDEN: not BEGUN, all WEEKS are played, no such what;");
            plan("all weeks are played", x, 0, HIDDEN, 1, HIDDEN, 9 + weeks, HIDDEN, 19 + weeks, HIDDEN);
        }
        SalaryLid y = Check.told("slots 1 0 0 0;weeks 6;k a 5 1 1 1 1 1 1");
        plan("not begun", y, 0, HIDDEN, 1, HIDDEN, 10, HIDDEN, 20, HIDDEN);
        plan("no league", new SalaryLid(), 0, HIDDEN, 1, HIDDEN, 10, HIDDEN, 20, HIDDEN);
        y.begin(1);
        Doc.bounds("what", what -> what > 1 ? HIDDEN : y.plan(what), 0, 1, HIDDEN);
        plan("no such", y, 2, HIDDEN, 3, HIDDEN, 9, HIDDEN, 16, HIDDEN, 17, HIDDEN, 18, HIDDEN, 19, HIDDEN, 26, HIDDEN, 30, HIDDEN,
            -10, HIDDEN, Integer.MAX_VALUE, HIDDEN, Integer.MIN_VALUE, HIDDEN, Integer.MIN_VALUE + 10, HIDDEN);
        y.undo();
        plan("begun undone", y, 0, HIDDEN, 1, HIDDEN);
    }
}
