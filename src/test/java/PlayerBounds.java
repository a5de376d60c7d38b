/** Promises 23, 32, 36 and 41: players among one another. */
final class PlayerBounds {
    private static final int NONE = SalaryLid.NONE;
    private static final int HIDDEN = SalaryLid.HIDDEN;

    private PlayerBounds() {
    }

    static void run() {
        outdoneByPrice();
        outdoneByPoints();
        outdoneFromNowOn();
        outdoneLowest();
        outdoneNone();
        apart();
        apartHidden();
        weight();
        weightHidden();
        mostPoints();
        mostPrice();
        mostWeight();
        mostOutdone();
        mostClub();
        mostWeek();
        mostNone();
    }

    // ---- promise 23 ----

    /** Of two players: who outdoes the first, who the second. */
    private static void outdone(String one, String other, int ofOne, int ofOther) {
        SalaryLid x = Check.told("slots 1 0 0 0;rise 99;fall 0;" + one + ";" + other);
        Doc.due("who outdoes " + one + " (by " + other + ")", x.outdone(0), ofOne);
        Doc.due("who outdoes " + other + " (by " + one + ")", x.outdone(1), ofOther);
    }

    private static void outdoneByPrice() {
        Doc.says(23, "OUTDONE: a PLAYER for whom there is another one of his PLACE, with a PRICE no more,");
        outdone("k a 5 3 3 3", "k a 4 3 3 3", 1, NONE);
        outdone("k a 5 3 3 3", "k a 5 3 3 3", NONE, 0);
        outdone("k a 5 3 3 3", "k a 6 3 3 3", NONE, 0);
        outdone("k a 5 3 3 3", "k a 4 3 3 4", 1, NONE);
        outdone("k a 5 3 3 3", "k a 5 3 3 4", 1, NONE);
        outdone("k a 5 3 3 3", "k a 6 3 3 4", NONE, NONE);
        outdone("k a 5 3 3 3", "b a 4 9 9 9", NONE, NONE);
        outdone("k a 5 3 3 3", "k f 4 9 9 9", 1, NONE);
        outdone("b a 5 3 3 3", "b a 4 9 9 9", 1, NONE);
        outdone("m a 5 3 3 3", "f a 4 9 9 9", NONE, NONE);
    }

    private static void outdoneByPoints() {
        Doc.says(23, "POINTS no fewer in each WEEK from now on, and with one of these truly better, or alike in all and a lower number.");
        outdone("k a 5 3 3 3", "k a 5 4 3 3", 1, NONE);
        outdone("k a 5 3 3 3", "k a 5 3 4 3", 1, NONE);
        outdone("k a 5 3 3 3", "k a 5 2 3 3", NONE, 0);
        outdone("k a 5 3 3 3", "k a 5 3 3 2", NONE, 0);
        outdone("k a 5 3 3 3", "k a 5 4 2 3", NONE, NONE);
        outdone("k a 5 3 3 3", "k a 5 9 9 2", NONE, NONE);
        outdone("k a 5 3 3 3", "k a 4 2 3 3", NONE, NONE);
        outdone("k a 5 3 3 3", "k a 4 3 3 2", NONE, NONE);
        outdone("k a 5 -3 -3 -3", "k a 5 -3 -3 -2", 1, NONE);
        outdone("k a 5 -3 -3 -3", "k a 5 -3 -3 -4", NONE, 0);
        SalaryLid x = Check.told("slots 1 0 0 0;k a 5 3 3 3;k b 5 3 3 3;k c 5 3 3 3");
        Doc.due("alike, the first", x.outdone(0), NONE);
        Doc.due("alike, the second", x.outdone(1), 0);
        Doc.due("alike, the third", x.outdone(2), 0);
    }

    private static void outdoneFromNowOn() {
        SalaryLid x = Check.told("slots 1 0 0 0;rise 99;fall 0;k a 5 9 3 3;k b 5 1 3 9;k c 5 1 4 1");
        int[][] want = {{NONE, NONE, NONE}, {1, NONE, NONE}, {1, NONE, 0}};
        x.begin(1);
        for (int played = 0; played < 3; played++) {
            for (int i = 0; i < 3; i++) {
                Doc.due("player " + i + " behind " + played + " weeks", x.outdone(i), want[played][i]);
            }
            x.week();
        }
        // The price as now: 5 and 6 become 6 and 5.
        SalaryLid y = Check.told("slots 1 0 0 0;weeks 2;rise 5;fall 1;k a 5 5 2;k b 6 1 2");
        y.begin(1);
        Doc.due("ahead of the week, the first", y.outdone(0), NONE);
        Doc.due("ahead of the week, the second", y.outdone(1), 0);
        y.week();
        Doc.due("behind the week, the first", y.outdone(0), 1);
        Doc.due("behind the week, the second", y.outdone(1), NONE);
    }

    private static void outdoneLowest() {
        Doc.says(23, "Who OUTDOES a PLAYER (the lowest who does).");
        SalaryLid x = Check.told("slots 1 0 0 0;weeks 1;b a 1 9;k a 6 3;k b 5 3;k c 5 4;k d 4 4;k e 7 3");
        int[] want = {NONE, 2, 3, 4, NONE, 1};
        for (int i = 0; i < 6; i++) {
            Doc.due("player " + i, x.outdone(i), want[i]);
        }
    }

    private static void outdoneNone() {
        Doc.says(23, "NONE: nobody, no such one, all WEEKS are played.");
        SalaryLid x = Check.told("slots 1 0 0 0;weeks 2;k a 5 3 3;k b 6 3 3");
        Doc.due("nobody", x.outdone(0), NONE);
        Doc.bounds("a player who is outdone", x::outdone, 1, 1, NONE);
        Doc.due("player 2", x.outdone(2), NONE);
        Doc.due("player 16", x.outdone(16), NONE);
        Doc.due("player 33", x.outdone(33), NONE);
        Doc.due("the only one", Check.told("slots 1 0 0 0;weeks 1;k a 5 3").outdone(0), NONE);
        Doc.due("no league", new SalaryLid().outdone(0), NONE);
        x.begin(1);
        x.week();
        Doc.due("the last week is to come", x.outdone(1), 0);
        x.week();
        Doc.due("all weeks are played", x.outdone(1), NONE);
        x.undo();
        Doc.due("the last one undone", x.outdone(1), 0);
    }

    // ---- promise 32 ----

    private static void apart() {
        Doc.says(32, "POINTS in a WEEK of those PLAYERS who are in the one SET alone (0), in the other alone (1).");
        SalaryLid x = Check.told("slots 1 0 0 0;weeks 2;k a 1 1 -1;b b 1 2 -20;m c 1 4 -3;f d 1 8 99");
        for (int one = 0; one < 16; one++) {
            for (int other = 0; other < 16; other++) {
                // In week 0 the points are the bits themselves.
                Doc.due(one + " apart from " + other, x.apart(one, other, 0, 0), one - (one & other));
                Doc.due(other + " apart from " + one, x.apart(one, other, 0, 1), other - (one & other));
            }
        }
        Doc.due("another week", x.apart(11, 6, 1, 0), -1 + 99);
        Doc.due("another week, the other", x.apart(11, 6, 1, 1), -3);
        x.begin(1);
        x.week();
        Doc.due("a week that was played", x.apart(11, 6, 0, 0), 9);
    }

    private static void apartHidden() {
        Doc.says(32, "HIDDEN: bits of no PLAYER, below 0, no such ones.");
        SalaryLid x = Check.told("slots 1 0 0 0;weeks 2;k a 1 1 -1;b b 1 2 -20;m c 1 4 -3;f d 1 8 99");
        for (int what = 0; what <= 1; what++) {
            int asked = what;
            Doc.bounds("the one, what " + what, one -> x.apart(one, 3, 0, asked), 0, 15, HIDDEN);
            Doc.bounds("the other, what " + what, other -> x.apart(3, other, 0, asked), 0, 15, HIDDEN);
            Doc.bounds("week, what " + what, week -> x.apart(3, 5, week, asked), 0, 1, HIDDEN);
            Doc.due("a bit in both, what " + what, x.apart(16, 16, 0, what), HIDDEN);
        }
        Doc.bounds("what", what -> x.apart(3, 5, 0, what), 0, 1, HIDDEN);
        SalaryLid y = Check.told("slots 1 0 0 0;weeks 1" + ";k a1 1".repeat(16));
        Doc.bounds("the one of sixteen", one -> y.apart(one, 0, 0, 0), 0, 65535, HIDDEN);
        Doc.due("no league", new SalaryLid().apart(0, 0, 0, 0), HIDDEN);
    }

    // ---- promise 36 ----

    private static void weight() {
        Doc.says(36, "WEIGHT of a PLAYER: POINTS of all WEEKS together by PRICE, a fraction in lowest terms.");
        int[][] want = {{12, 5, 12, 5}, {12, 6, 2, 1}, {12, 8, 3, 2}, {12, 12, 1, 1}, {12, 24, 1, 2}, {12, 1, 12, 1}, {0, 1, 0, 1}, {0, 99, 0, 1},
            {-12, 8, -3, 2}, {-12, 12, -1, 1}, {-1, 99, -1, 99}, {594, 99, 6, 1}, {-594, 99, -6, 1}, {593, 99, 593, 99}, {594, 98, 297, 49}};
        for (int[] row : want) {
            SalaryLid x = Check.told("slots 1 0 0 0;weeks 6;k a " + row[1] + shared(row[0]));
            Doc.due("points", Check.player(x, 0, 5), row[0]);
            Doc.due(row[0] + " by " + row[1] + ", above", x.weight(0, 0), row[2]);
            Doc.due(row[0] + " by " + row[1] + ", below", x.weight(0, 1), row[3]);
        }
        Doc.says(36, "WEIGHT: 0 above, 1 below the line.");
        SalaryLid y = Check.told("slots 1 0 0 0;weeks 2;rise 5;fall 1;k a 5 5 7");
        Doc.due("above", y.weight(0, 0), 12);
        Doc.due("below", y.weight(0, 1), 5);
        y.begin(1);
        y.week();
        Doc.due("points of all weeks", y.weight(0, 0), 2);
        Doc.due("by the price as now", y.weight(0, 1), 1);
        y.week();
        Doc.due("when all are played, above", y.weight(0, 0), 12);
        Doc.due("when all are played, below", y.weight(0, 1), 7);
    }

    /** Points of six weeks that are so many together. */
    private static String shared(int points) {
        StringBuilder text = new StringBuilder();
        int left = points;
        for (int week = 0; week < 6; week++) {
            int here = Math.max(-99, Math.min(99, left));
            text.append(' ').append(here);
            left -= here;
        }
        return text.toString();
    }

    private static void weightHidden() {
        Doc.says(36, "HIDDEN: no such ones.");
        SalaryLid x = Check.told("slots 1 0 0 0;weeks 1;k a 5 3;k b 6 4;k c 7 5");
        Doc.bounds("player", i -> x.weight(i, 0), 0, 2, HIDDEN);
        Doc.bounds("player, below", i -> x.weight(i, 1), 0, 2, HIDDEN);
        Doc.bounds("what", what -> x.weight(0, what), 0, 1, HIDDEN);
        Doc.due("no league", new SalaryLid().weight(0, 0), HIDDEN);
    }

    // ---- promise 41 ----

    private static int most(String players, int what) {
        return Check.told("slots 1 0 0 0;weeks 2;rise 9;fall 0;" + players).most(what);
    }

    private static void mostPoints() {
        Doc.says(41, "0 the PLAYER with the most POINTS of all WEEKS,");
        Doc.due("one more", most("k a 1 3 3;k b 1 3 4", 0), 1);
        Doc.due("as many", most("k a 1 3 3;k b 1 2 4", 0), 0);
        Doc.due("one fewer", most("k a 1 3 3;k b 1 3 2", 0), 0);
        Doc.due("below 0", most("k a 1 -3 -3;k b 1 -3 -2;k c 1 -2 -3", 0), 1);
        Doc.due("the only one", most("k a 1 -99 -99", 0), 0);
        SalaryLid x = Check.told("slots 1 0 0 0;weeks 2;k a 1 9 0;k b 1 0 8");
        x.begin(1);
        x.week();
        Doc.due("weeks that were played count", x.most(0), 0);
    }

    private static void mostPrice() {
        Doc.says(41, "1 the greatest PRICE,");
        Doc.due("one more", most("k a 5 3 3;k b 6 3 3", 1), 1);
        Doc.due("the same", most("k a 5 3 3;k b 5 9 9", 1), 0);
        Doc.due("one less", most("k a 5 3 3;k b 4 3 3", 1), 0);
        Doc.due("the last", most("k a 97 3 3;k b 98 3 3;k c 99 3 3", 1), 2);
        SalaryLid x = Check.told("slots 1 0 0 0;weeks 3;rise 9;fall 0;k a 6 0 1 1;k b 4 9 9 1");
        x.begin(1);
        int[] want = {0, 0, 1, 1};
        for (int played = 0; played <= 3; played++) {
            Doc.due("as now, behind " + played + " weeks", x.most(1), want[played]);
            x.week();
        }
    }

    private static void mostWeight() {
        Doc.says(41, "2 the greatest WEIGHT (of several the lowest),");
        Doc.due("3 by 2 and 4 by 3", most("k a 2 1 2;k b 3 2 2", 2), 0);
        Doc.due("3 by 2 and 5 by 3", most("k a 2 1 2;k b 3 2 3", 2), 1);
        Doc.due("3 by 2 and 6 by 4", most("k a 2 1 2;k b 4 3 3", 2), 0);
        Doc.due("6 by 4 and 3 by 2", most("k a 4 3 3;k b 2 1 2", 2), 0);
        Doc.due("0 by 1 and 0 by 9", most("k a 1 0 0;k b 9 0 0", 2), 0);
        Doc.due("0 by 9 and 1 by 99", most("k a 9 0 0;k b 99 0 1", 2), 1);
        Doc.due("-1 by 2 and -1 by 3", most("k a 2 -1 0;k b 3 -1 0", 2), 1);
        Doc.due("-1 by 3 and -1 by 2", most("k a 3 -1 0;k b 2 -1 0", 2), 0);
        Doc.due("-1 by 99 and 0 by 99", most("k a 99 -1 0;k b 99 0 0", 2), 1);
        Doc.due("197 by 1 and 198 by 1", most("k a 1 99 98;k b 1 99 99", 2), 1);
    }

    private static void mostOutdone() {
        Doc.says(41, "3 how many are OUTDONE,");
        Doc.due("nobody", most("k a 5 3 3;k b 6 3 4", 3), 0);
        Doc.due("one", most("k a 5 3 3;k b 6 3 3", 3), 1);
        Doc.due("the first one", most("k a 6 3 3;k b 5 3 3", 3), 1);
        Doc.due("all but one", most("k a 5 3 3;k b 5 3 3;k c 5 3 3;k d 5 3 3", 3), 3);
        Doc.due("of two places", most("k a 5 3 3;k b 5 3 3;b c 5 3 3;b d 5 3 3", 3), 2);
        Doc.due("fifteen of sixteen", Check.told("slots 1 0 0 0;weeks 1" + ";k a1 1".repeat(16)).most(3), 15);
        SalaryLid x = Check.told("slots 1 0 0 0;weeks 2;rise 99;fall 0;k a 5 3 3;k b 5 4 2");
        Doc.due("of both weeks", x.most(3), 0);
        x.begin(1);
        x.week();
        Doc.due("from now on", x.most(3), 1);
    }

    private static void mostClub() {
        Doc.says(41, "4 the CLUB with most PLAYERS (likewise),");
        Doc.due("one alone", most("k f 1 1 1", 4), 5);
        Doc.due("as many", most("k f 1 1 1;k c 1 1 1", 4), 2);
        Doc.due("one more", most("k f 1 1 1;k c 1 1 1;k f 1 1 1", 4), 5);
        Doc.due("one fewer", most("k f 1 1 1;k c 1 1 1;k c 1 1 1", 4), 2);
        Doc.due("a club without players", most("k b 1 1 1;k e 1 1 1", 4), 1);
        Doc.due("of all places", most("k a 1 1 1;k a 1 1 1;k e 1 1 1;b e 1 1 1;m e 1 1 1", 4), 4);
    }

    private static void mostWeek() {
        Doc.says(41, "5 the WEEK in which all PLAYERS have most POINTS together (likewise).");
        Doc.due("one more", most("k a 1 3 4;k b 1 3 3", 5), 1);
        Doc.due("as many", most("k a 1 3 4;k b 1 3 2", 5), 0);
        Doc.due("one fewer", most("k a 1 3 4;k b 1 3 1", 5), 0);
        Doc.due("below 0", most("k a 1 -3 -2;b b 1 -3 -3", 5), 1);
        SalaryLid x = Check.told("slots 1 0 0 0;weeks 6;k a 1 1 2 3 4 5 6;k b 1 0 0 0 0 0 0");
        Doc.due("the last of six", x.most(5), 5);
        Doc.due("one week alone", Check.told("slots 1 0 0 0;weeks 1;k a 1 -9").most(5), 0);
        SalaryLid y = Check.told("slots 1 0 0 0;weeks 2;k a 1 9 0");
        y.begin(1);
        y.week();
        Doc.due("a week that was played", y.most(5), 0);
    }

    private static void mostNone() {
        Doc.says(41, "NONE: no LEAGUE, no such what; 3: all WEEKS are played.");
        SalaryLid x = Check.told("slots 1 0 0 0;weeks 2;k a 5 3 3;k b 6 3 3");
        Doc.bounds("what", x::most, 0, 5, NONE);
        for (int what = -1; what <= 6; what++) {
            Doc.due("no league, what " + what, new SalaryLid().most(what), NONE);
        }
        x.begin(1);
        x.week();
        Doc.due("the last week is to come", x.most(3), 1);
        x.week();
        int[] want = {NONE, 0, 1, 0, NONE, 0, 0, NONE};
        for (int what = -1; what <= 6; what++) {
            Doc.due("all weeks are played, what " + what, x.most(what), want[what + 1]);
        }
        x.undo();
        Doc.due("the last one undone", x.most(3), 1);
    }
}
