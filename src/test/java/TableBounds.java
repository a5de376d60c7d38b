import java.math.BigInteger;

/** Promises 17 to 22, 28 to 30 and 33 to 35: sets, the best teams by the table, regret and rivals. */
final class TableBounds {
    private static final int NONE = SalaryLid.NONE;
    private static final int HIDDEN = SalaryLid.HIDDEN;

    // Teams 1, 2, 4, 8 for 5, 6, 7, 8; in week 0 they have 6, 6, 8, 8 points, in week 1 2, 18, 4, 0.
    private static final String FOUR = "slots 1 0 0 0;weeks 2;rise 99;fall 0;k a 5 3 1;k b 6 3 9;k c 7 4 2;k d 8 4 0";

    // Teams 3 for 10, 5 and 6 for 11, each with 9 points; 9 and 10 for 14, 12 for 15, each with 4.
    private static final String TWOS = "slots 2 0 0 0;weeks 1;k a 5 3;k b 5 3;k c 6 3;k d 9 -2";

    // The first rises, the second falls: 5 and 6 become 6 and 5.
    private static final String MOVED = "slots 1 0 0 0;weeks 2;rise 5;fall 1;k a 5 5 5;k b 6 1 1";

    private TableBounds() {
    }

    static void run() {
        setsAreBits();
        whatIsATeam();
        clubsOfATeam();
        teamRefused();
        pricesOfASet();
        teamsUnderL();
        bestUnderL();
        bestOfSeveral();
        bestHidden();
        must();
        least();
        steady();
        steadyHidden();
        stairs();
        stairsHidden();
        held();
        regret();
        regretHidden();
        rivals();
        rivalsOfAnyBit();
        rivalsUnderTheLid();
        rivalHidden();
        ahead();
        aheadRefused();
        largestLeague();
    }

    private static SalaryLid playedOnce(String text) {
        SalaryLid x = Check.told(text);
        x.begin(1);
        x.week();
        return x;
    }

    // ---- promises 17 to 19 ----

    private static void setsAreBits() {
        Doc.says(18, "SETS of PLAYERS are bits (numbered from 0 on as they are told).");
        SalaryLid x = Check.told("slots 1 0 0 0;weeks 1;k a 1 1;b b 2 1;m c 4 1;f d 8 1;k e 16 1;k f 32 1");
        for (int set = 0; set < 64; set++) {
            Doc.due("set " + set, x.price(set), set);
        }
        StringBuilder sixteen = new StringBuilder("slots 1 0 0 0;weeks 1");
        for (int i = 1; i <= 16; i++) {
            sixteen.append(";k a").append(i).append(" 1");
        }
        SalaryLid y = Check.told(sixteen.toString());
        for (int i = 0; i < 16; i++) {
            Doc.due("player " + i + " alone", y.price(1 << i), i + 1);
        }
        Doc.due("all sixteen", y.price(65535), 136);
        Doc.due("one bit more", y.price(65536), NONE);
    }

    private static void whatIsATeam() {
        Doc.says(17, "A TEAM: a SET with just as many of each PLACE as slots tell,");
        for (int place = 0; place < 4; place++) {
            for (int slots = 1; slots <= 3; slots++) {
                String text = "slots" + " 0".repeat(place) + " " + slots + " 0".repeat(3 - place) + ";weeks 1"
                    + (";" + "kbmf".charAt(place) + " a1 1").repeat(4) + ";" + "kbmf".charAt((place + 1) % 4) + " a1 1";
                SalaryLid x = Check.told(text);
                Doc.due("one fewer than " + slots, x.team((1 << slots - 1) - 1), 2);
                Doc.due("just " + slots, x.team((1 << slots) - 1), 0);
                Doc.due("one more than " + slots, x.team((1 << slots + 1) - 1), 2);
                Doc.due("one of another place, too", x.team(16 + (1 << slots) - 1), 2);
                Doc.due("one of another place instead", x.team(16 + (1 << slots - 1) - 1), 2);
            }
        }
        SalaryLid y = Check.told("slots 1 0 0 0;b a 1 1 1 1");
        Doc.due("a place without players", y.team(0), 2);
        Doc.due("no set is a team", y.teams(599), 0);
    }

    private static void clubsOfATeam() {
        Doc.says(17, "none of more than club tells from one CLUB.");
        for (int club = 1; club <= 6; club++) {
            for (int of = 1; of <= 6; of++) {
                // So many of club f, the others of clubs of their own.
                StringBuilder text = new StringBuilder("slots 3 3 0 0;club " + club + ";weeks 1");
                for (int i = 0; i < 6; i++) {
                    text.append(i < 3 ? ";k " : ";b ").append(i < of ? 'f' : (char) ('a' + i - 1)).append("1 1");
                }
                Doc.due(of + " of a club, " + club + " may be", Check.told(text.toString()).team(63), of > club ? 3 : 0);
            }
        }
        StringBuilder six = new StringBuilder("slots 3 3 0 0;weeks 1");
        for (int i = 0; i < 6; i++) {
            six.append(i < 3 ? ";k a1 1" : ";b a1 1");
        }
        Doc.due("six of a club without club", Check.told(six.toString()).team(63), 0);
        for (char c = 'a'; c <= 'f'; c++) {
            String text = "slots 2 0 0 0;club 1;weeks 1;k " + c + "1 1;k " + c + "1 1;k " + (c == 'a' ? 'b' : 'a') + "1 1";
            Doc.due("two of club " + c, Check.told(text).team(3), 3);
            Doc.due("one of club " + c, Check.told(text).team(5), 0);
        }
    }

    private static void teamRefused() {
        Doc.says(17, "Whether a SET is a TEAM: 0; 1: bits of no PLAYER, below 0; 2: slots; 3: club (the first that is so).");
        SalaryLid x = Check.told("slots 2 0 0 0;club 1;weeks 1;k a1 1;k a1 1;k b1 1");
        Doc.due("a team", x.team(5), 0);
        Doc.due("slots ahead of club", x.team(7), 2);
        Doc.due("club", x.team(3), 3);
        Doc.due("nobody", x.team(0), 2);
        Doc.due("the bit above the last player", x.team(8), 1);
        Doc.due("bits ahead of slots", x.team(15), 1);
        Doc.due("a team and a bit more", x.team(13), 1);
        Doc.due("the highest bit", x.team((1 << 30) + 5), 1);
        Doc.due("all bits", x.team(Integer.MAX_VALUE), 1);
        Doc.due("-1", x.team(-1), 1);
        Doc.due("the least", x.team(Integer.MIN_VALUE), 1);
        Doc.due("the least and a team", x.team(Integer.MIN_VALUE + 5), 1);
        SalaryLid y = Check.told("slots 1 0 0 0;weeks 1" + ";k a1 1".repeat(16));
        Doc.due("the sixteenth", y.team(32768), 0);
        Doc.due("a seventeenth", y.team(65536), 1);
        Doc.says(17, "NONE: no LEAGUE.");
        for (int set : new int[] {0, 1, -1, 65536}) {
            Doc.due("set " + set, new SalaryLid().team(set), NONE);
        }
    }

    private static void pricesOfASet() {
        Doc.says(18, "PRICES of a SET together, as now.");
        SalaryLid x = Check.told(MOVED);
        Doc.due("nobody", x.price(0), 0);
        Doc.due("no team", x.price(3), 11);
        x.begin(1);
        x.week();
        Doc.due("as now, risen", x.price(1), 6);
        Doc.due("as now, fallen", x.price(2), 5);
        x.week();
        Doc.due("all weeks are played", x.price(1), 7);
        x.undo();
        x.undo();
        Doc.due("undone", x.price(1), 5);
        SalaryLid y = Check.told("slots 1 0 0 0;weeks 1" + ";k a99 1".repeat(16));
        Doc.due("the most", y.price(65535), 1584);
        Doc.says(18, "NONE: no LEAGUE, bits of no PLAYER, below 0.");
        Doc.bounds("set", x::price, 0, 3, NONE);
        Doc.bounds("set of sixteen", y::price, 0, 65535, NONE);
        Doc.due("no league", new SalaryLid().price(0), NONE);
    }

    private static void teamsUnderL() {
        Doc.says(19, "How many TEAMS have PRICES (as now) together no more than L.");
        SalaryLid x = Check.told(FOUR);
        for (int l = 0; l <= 10; l++) {
            Doc.due("L " + l, x.teams(l), Math.max(0, Math.min(4, l - 4)));
        }
        Doc.due("the greatest L", x.teams(Integer.MAX_VALUE), 4);
        SalaryLid y = Check.told(TWOS);
        int[] want = {0, 1, 3, 3, 3, 5, 6, 6};
        for (int l = 9; l <= 16; l++) {
            Doc.due("twos, L " + l, y.teams(l), want[l - 9]);
        }
        SalaryLid z = Check.told(MOVED);
        Doc.due("5 and 6, L 5", z.teams(5), 1);
        z.begin(1);
        z.week();
        z.week();
        Doc.due("7 and 4, L 3", z.teams(3), 0);
        Doc.due("7 and 4, L 4", z.teams(4), 1);
        Doc.due("7 and 4, L 6", z.teams(6), 1);
        Doc.due("7 and 4, L 7", z.teams(7), 2);
        SalaryLid w = Check.told("slots 3 3 0 0;weeks 1" + ";k a99 1".repeat(8) + ";b b99 1".repeat(8));
        Doc.due("as many as can be, L 593", w.teams(593), 0);
        Doc.due("as many as can be, L 594", w.teams(594), 3136);
        Doc.says(19, "NONE: no LEAGUE, L below 0.");
        Doc.due("L 0", x.teams(0), 0);
        Doc.due("L -1", x.teams(-1), NONE);
        Doc.due("the least L", x.teams(Integer.MIN_VALUE), NONE);
        Doc.due("no league", new SalaryLid().teams(0), NONE);
    }

    // ---- promises 20 to 22 ----

    private static void best(SalaryLid x, int week, int l, int points, int team, int captain) {
        Doc.due("points of week " + week + " under " + l, x.best(week, l, 0), points);
        Doc.due("team of week " + week + " under " + l, x.best(week, l, 1), team);
        Doc.due("captain of week " + week + " under " + l, x.best(week, l, 2), captain);
    }

    private static void bestUnderL() {
        Doc.says(20, "==== 3. BEST of a WEEK under L: of all TEAMS whose PRICES (as now) together are no more than L"
            + " the one with the most POINTS, its best captain's once more;");
        SalaryLid x = Check.told(FOUR);
        best(x, 0, 4, HIDDEN, HIDDEN, HIDDEN);
        best(x, 0, 5, 6, 1, 0);
        best(x, 0, 6, 6, 1, 0);
        best(x, 0, 7, 8, 4, 2);
        best(x, 0, 8, 8, 4, 2);
        best(x, 1, 5, 2, 1, 0);
        best(x, 1, 6, 18, 2, 1);
        best(x, 1, Integer.MAX_VALUE, 18, 2, 1);
        SalaryLid y = playedOnce(MOVED);
        best(y, 0, 4, HIDDEN, HIDDEN, HIDDEN);
        best(y, 0, 5, 2, 2, 1);
        best(y, 0, 6, 10, 1, 0);
        best(y, 1, 5, 2, 2, 1);
        Doc.says(20, "BEST of a WEEK under L: 0 the POINTS, 1 the TEAM, 2 its captain.");
        SalaryLid z = Check.told("slots 2 0 0 0;weeks 2;k a 5 -9 99;k b 5 -8 99;k c 5 -7 -99");
        best(z, 0, 10, -22, 6, 2);
        best(z, 1, 10, 297, 3, 0);
        // The best captain makes up for what the others lack.
        SalaryLid w = Check.told("slots 2 0 0 0;weeks 1;k a 5 4;k b 5 4;k c 5 6;k d 5 1");
        best(w, 0, 10, 16, 5, 2);
    }

    private static void bestOfSeveral() {
        Doc.says(20, "of several the least as bits.");
        SalaryLid x = Check.told(TWOS);
        best(x, 0, 10, 9, 3, 0);
        best(x, 0, 11, 9, 3, 0);
        best(x, 0, 15, 9, 3, 0);
        SalaryLid y = Check.told("slots 1 1 0 0;weeks 1;b a 5 3;k a 5 4;k b 4 4;b b 4 3");
        best(y, 0, 8, 11, 12, 2);
        best(y, 0, 9, 11, 5, 2);
        best(y, 0, 10, 11, 3, 1);
    }

    private static void bestHidden() {
        Doc.says(20, "HIDDEN: there is none, no such ones.");
        SalaryLid x = Check.told(FOUR);
        Doc.bounds("what", what -> x.best(0, 8, what), 0, 2, HIDDEN);
        Doc.bounds("week", week -> x.best(week, 8, 0), 0, 1, HIDDEN);
        Doc.due("L 0", x.best(0, 0, 0), HIDDEN);
        Doc.due("L -1", x.best(0, -1, 0), HIDDEN);
        Doc.due("the least L", x.best(0, Integer.MIN_VALUE, 0), HIDDEN);
        Doc.due("no team at all", Check.told("slots 2 0 0 0;k a 1 1 1 1").best(0, 599, 0), HIDDEN);
        Doc.due("no league", new SalaryLid().best(0, 599, 0), HIDDEN);
        x.begin(1);
        x.week();
        Doc.bounds("when a week was played, week", week -> x.best(week, 8, 0), 0, 1, HIDDEN);
        x.week();
        Doc.bounds("when all were played, week", week -> x.best(week, 8, 0), 0, 1, HIDDEN);
    }

    private static void must() {
        Doc.says(21, "MUST: PLAYERS who are in all TEAMS with as many as BEST.");
        SalaryLid x = Check.told(FOUR);
        int[] want = {HIDDEN, 1, 0, 4, 0, 0};
        for (int l = 4; l <= 9; l++) {
            Doc.due("L " + l, x.must(0, l), want[l - 4]);
        }
        Doc.due("another week, L 5", x.must(1, 5), 1);
        Doc.due("another week, L 6", x.must(1, 6), 2);
        SalaryLid y = Check.told("slots 1 2 0 0;weeks 1;k a 1 5;b a 1 4;b a 1 3;b a 2 3;k a 3 5");
        Doc.says(21, "MUST (bits).");
        Doc.due("one team", y.must(0, 3), 7);
        Doc.due("either of two backs", y.must(0, 4), 3);
        Doc.due("either of two keepers, too", y.must(0, 6), 2);
        Doc.due("prices as now, L 5", playedOnce(MOVED).must(0, 5), 2);
        Doc.due("prices as now, L 6", playedOnce(MOVED).must(0, 6), 1);
        Doc.says(21, "HIDDEN: as best().");
        Doc.bounds("week", week -> x.must(week, 8), 0, 1, HIDDEN);
        Doc.due("L 0", x.must(0, 0), HIDDEN);
        Doc.due("L -1", x.must(0, -1), HIDDEN);
        Doc.due("the least L", x.must(0, Integer.MIN_VALUE), HIDDEN);
        Doc.due("no team at all", Check.told("slots 2 0 0 0;k a 1 1 1 1").must(0, 599), HIDDEN);
        Doc.due("no league", new SalaryLid().must(0, 599), HIDDEN);
    }

    private static void least() {
        Doc.says(22, "LEAST of a WEEK for s: the least L so that BEST has s or more.");
        SalaryLid x = Check.told(FOUR);
        int[][] want = {{5, 5}, {6, 5}, {7, 7}, {8, 7}, {9, NONE}};
        for (int[] pair : want) {
            Doc.due("week 0, s " + pair[0], x.least(0, pair[0]), pair[1]);
        }
        int[][] next = {{1, 5}, {2, 5}, {3, 6}, {17, 6}, {18, 6}, {19, NONE}};
        for (int[] pair : next) {
            Doc.due("week 1, s " + pair[0], x.least(1, pair[0]), pair[1]);
        }
        Doc.says(22, "LEAST of a WEEK for s.");
        Doc.due("s 0", x.least(0, 0), 5);
        Doc.due("s below 0", x.least(0, -1), 5);
        Doc.due("the least s", x.least(0, Integer.MIN_VALUE), 5);
        SalaryLid y = Check.told("slots 2 0 0 0;weeks 1;k a 99 -99;k b 99 -99");
        Doc.due("s -298", y.least(0, -298), 198);
        Doc.due("s -297", y.least(0, -297), 198);
        Doc.due("s -296", y.least(0, -296), NONE);
        Doc.due("prices as now", playedOnce(MOVED).least(0, 2), 5);
        Doc.due("prices as now", playedOnce(MOVED).least(0, 3), 6);
        Doc.says(22, "NONE: none is enough, no such WEEK, no LEAGUE.");
        Doc.due("the greatest s", x.least(0, Integer.MAX_VALUE), NONE);
        Doc.bounds("week", week -> x.least(week, 0), 0, 1, NONE);
        Doc.due("no team at all", Check.told("slots 2 0 0 0;k a 1 1 1 1").least(0, -9999), NONE);
        Doc.due("no league", new SalaryLid().least(0, -9999), NONE);
    }

    // ---- promises 28 to 30 ----

    // From week 0 on the least are 2, 6, 4, 6; from week 1 on 8, 6, 4, 6; in week 2 12, 6, 18, 8.
    private static final String STEADY = "slots 1 0 0 0;weeks 3;rise 99;fall 0;k a 5 1 4 6;k b 6 9 3 3;k c 7 2 2 9;k d 7 9 3 4";

    private static void steady(SalaryLid x, int l, int points, int team) {
        Doc.due("points under " + l, x.steady(l, 0), points);
        Doc.due("team under " + l, x.steady(l, 1), team);
    }

    private static void steady() {
        Doc.says(28, "STEADY under L: of all TEAMS whose PRICES (as now) together are no more than L the one whose least POINTS"
            + " of all WEEKS from now on (its best captain's once more each) are most; of several the least as bits.");
        SalaryLid x = Check.told(STEADY);
        steady(x, 4, HIDDEN, HIDDEN);
        steady(x, 5, 2, 1);
        steady(x, 6, 6, 2);
        steady(x, 7, 6, 2);
        steady(x, Integer.MAX_VALUE, 6, 2);
        x.begin(1);
        x.week();
        steady(x, 4, HIDDEN, HIDDEN);
        steady(x, 5, 8, 1);
        steady(x, 7, 8, 1);
        x.week();
        Doc.says(28, "STEADY under L: 0 those least POINTS, 1 the TEAM.");
        steady(x, 6, 12, 1);
        steady(x, 7, 18, 4);
        SalaryLid y = Check.told(MOVED);
        y.begin(1);
        y.week();
        steady(y, 4, HIDDEN, HIDDEN);
        steady(y, 5, 2, 2);
        steady(y, 6, 10, 1);
        // Another captain each week: 3 + 9 + 9 and 9 + 4 + 9.
        SalaryLid z = Check.told("slots 2 0 0 0;weeks 2;k a 5 3 9;k b 5 9 4");
        steady(z, 9, HIDDEN, HIDDEN);
        steady(z, 10, 21, 3);
        steady(Check.told("slots 1 0 0 0;weeks 2;k a 1 -99 -98;k b 1 -98 -99"), 1, -198, 1);
    }

    private static void steadyHidden() {
        Doc.says(28, "HIDDEN: there is none, all WEEKS are played, no such ones.");
        SalaryLid x = Check.told(STEADY);
        Doc.bounds("what", what -> x.steady(7, what), 0, 1, HIDDEN);
        Doc.due("L 0", x.steady(0, 0), HIDDEN);
        Doc.due("L -1", x.steady(-1, 0), HIDDEN);
        Doc.due("the least L", x.steady(Integer.MIN_VALUE, 0), HIDDEN);
        Doc.due("no team at all", Check.told("slots 2 0 0 0;k a 1 1 1 1").steady(599, 0), HIDDEN);
        Doc.due("no league", new SalaryLid().steady(599, 0), HIDDEN);
        x.begin(1);
        x.week();
        x.week();
        Doc.bounds("the last week, what", what -> x.steady(7, what), 0, 1, HIDDEN);
        x.week();
        steady(x, 599, HIDDEN, HIDDEN);
        x.undo();
        steady(x, 599, 18, 4);
    }

    private static void stair(SalaryLid x, int week, int... want) {
        Doc.due("how many of week " + week, x.stairs(week, NONE, 0), want.length / 2);
        for (int i = 0; i < want.length / 2; i++) {
            Doc.due("L of the " + i + "th", x.stairs(week, i, 0), want[2 * i]);
            Doc.due("points of the " + i + "th", x.stairs(week, i, 1), want[2 * i + 1]);
            Doc.due("under it", x.best(week, want[2 * i], 0), want[2 * i + 1]);
            Doc.due("under one less", x.best(week, want[2 * i] - 1, 0), i == 0 ? HIDDEN : want[2 * i - 1]);
        }
        Doc.due("one behind the last", x.stairs(week, want.length / 2, 0), HIDDEN);
    }

    private static void stairs() {
        Doc.says(29, "STAIRS of a WEEK: each L, rising, under which there is a BEST that has more than that under L less 1 (or there is none under that).");
        SalaryLid x = Check.told(FOUR);
        stair(x, 0, 5, 6, 7, 8);
        stair(x, 1, 5, 2, 6, 18);
        stair(Check.told(TWOS), 0, 10, 9);
        stair(Check.told("slots 1 0 0 0;weeks 1;k a 1 -9;k b 2 -8;k c 3 -8;k d 4 -9;k e 98 -7;k f 99 0"), 0, 1, -18, 2, -16, 98, -14, 99, 0);
        stair(Check.told("slots 3 3 0 0;weeks 1;k a99 9;k a99 9;k a99 9;b a99 9;b a99 9;b a99 9;b a98 8"), 0, 593, 62, 594, 63);
        stair(Check.told("slots 1 0 0 0;weeks 1;k a 5 1;k b 5 2;k c 5 2"), 0, 5, 4);
        SalaryLid y = playedOnce(MOVED);
        stair(y, 0, 5, 2, 6, 10);
        y.week();
        stair(y, 1, 4, 2, 7, 10);
        stair(Check.told("slots 2 0 0 0;k a 1 1 1 1"), 0);
        Doc.says(29, "STAIRS of a WEEK: how many (i NONE; what isn't asked), the i-th: 0 L, 1 the POINTS.");
        for (int what : new int[] {-1, 0, 1, 2, Integer.MIN_VALUE, Integer.MAX_VALUE}) {
            Doc.due("how many, what " + what, x.stairs(0, NONE, what), 2);
        }
    }

    private static void stairsHidden() {
        Doc.says(29, "HIDDEN: no such ones.");
        SalaryLid x = Check.told(FOUR);
        Doc.bounds("week", week -> x.stairs(week, 0, 0), 0, 1, HIDDEN);
        Doc.bounds("week, how many", week -> x.stairs(week, NONE, 0), 0, 1, HIDDEN);
        Doc.bounds("what", what -> x.stairs(0, 0, what), 0, 1, HIDDEN);
        Doc.bounds("what of the last", what -> x.stairs(0, 1, what), 0, 1, HIDDEN);
        Doc.bounds("i", i -> x.stairs(0, i, 0), -1, 1, HIDDEN);
        Doc.bounds("i, the points", i -> x.stairs(0, i, 1), -1, 1, HIDDEN);
        Doc.due("i 0 of none", Check.told("slots 2 0 0 0;k a 1 1 1 1").stairs(0, 0, 0), HIDDEN);
        Doc.due("no league", new SalaryLid().stairs(0, 0, 0), HIDDEN);
        Doc.due("no league, how many", new SalaryLid().stairs(0, NONE, 0), HIDDEN);
    }

    private static void held() {
        Doc.says(30, "How many TEAMS whose PRICES (as now) together are no more than L have both PLAYERS (or the one, told twice).");
        SalaryLid x = Check.told(TWOS);
        int[][] want = {{9, 0, 0, 0}, {10, 0, 0, 1}, {11, 0, 0, 2}, {13, 0, 0, 2}, {14, 0, 0, 3}, {15, 3, 3, 3}, {14, 3, 3, 2}, {13, 3, 3, 0},
            {9, 0, 1, 0}, {10, 0, 1, 1}, {99, 1, 0, 1}, {14, 2, 3, 0}, {15, 2, 3, 1}, {15, 3, 2, 1}, {0, 0, 0, 0}, {Integer.MAX_VALUE, 2, 2, 3}};
        for (int[] row : want) {
            Doc.due("L " + row[0] + ", " + row[1] + " and " + row[2], x.held(row[0], row[1], row[2]), row[3]);
        }
        SalaryLid y = Check.told(FOUR);
        Doc.due("no team has both", y.held(99, 0, 1), 0);
        SalaryLid z = playedOnce(MOVED);
        Doc.due("as now, 5", z.held(5, 0, 0), 0);
        Doc.due("as now, 6", z.held(6, 0, 0), 1);
        Doc.says(30, "NONE: no such ones, L below 0.");
        Doc.bounds("i", i -> x.held(15, i, 0), 0, 3, NONE);
        Doc.bounds("j", j -> x.held(15, 0, j), 0, 3, NONE);
        Doc.bounds("both", i -> x.held(15, i, i), 0, 3, NONE);
        for (int i : new int[] {31, 32, 33, 64}) {
            Doc.due("i " + i, x.held(15, i, 0), NONE);
            Doc.due("j " + i, x.held(15, 0, i), NONE);
        }
        Doc.due("L -1", x.held(-1, 0, 0), NONE);
        Doc.due("the least L", x.held(Integer.MIN_VALUE, 0, 0), NONE);
        Doc.due("no league", new SalaryLid().held(0, 0, 0), NONE);
    }

    // ---- promise 33 ----

    private static SalaryLid played(String text, int weeks) {
        SalaryLid x = Check.told(text);
        x.begin(1);
        for (int week = 0; week < weeks; week++) {
            x.week();
        }
        return x;
    }

    private static void regret() {
        Doc.says(33, "REGRET of a WEEK that was played: POINTS of BEST of it under WORTH ahead of it, by PRICES ahead of it, less its SCORE");
        String text = ";weeks 2;rise 5;fall 1;k a 5 5 5;k b 9 6 1;k c 10 9 9";
        int[] want = {0, 2, 8, 8};
        for (int lid = 8; lid <= 11; lid++) {
            Doc.due("worth " + lid, played("slots 1 0 0 0;lid " + lid + text, 1).regret(0), want[lid - 8]);
        }
        // Behind week 0 they are 6, 10, 11; the worth is the lid still, as the half of 1 is 0.
        for (int lid = 9; lid <= 12; lid++) {
            SalaryLid x = played("slots 1 0 0 0;lid " + lid + text, 2);
            Doc.due("worth " + lid + ", week 1", x.regret(1), lid < 11 ? 0 : 8);
            Doc.due("week 0 stays", x.regret(0), lid < 10 ? 2 : 8);
        }
        SalaryLid y = Check.told("slots 1 0 0 0;lid 9;weeks 1;k a 5 5;k b 9 6");
        y.begin(1);
        y.chip(0);
        Doc.due("triple", y.week(), 15);
        Doc.says(33, "REGRET.");
        Doc.due("the score was more than the best", y.regret(0), -3);
        SalaryLid z = Check.told("slots 1 0 0 0;lid 9;weeks 1;cost 9;k a 5 5;k b 9 6");
        z.begin(1);
        z.swap(0, 1);
        z.swap(1, 0);
        z.swap(0, 1);
        z.week();
        Doc.due("what the swaps cost", z.regret(0), 18);
    }

    private static void regretHidden() {
        Doc.says(33, "(0, if there was no such TEAM).");
        // Worth 5, 5, 6 of a price of 5, 6, 7.
        SalaryLid x = played("slots 1 0 0 0;lid 5;weeks 3;rise 1;k a 5 4 4 4", 3);
        int[] worth = {5, 5, 6};
        for (int week = 0; week < 3; week++) {
            Doc.due("worth ahead of " + week, x.tale(week, 5), worth[week]);
            Doc.due("score of " + week, x.tale(week, 0), 8);
            Doc.due("regret of " + week, x.regret(week), 0);
        }
        SalaryLid y = Check.told("slots 1 0 0 0;lid 5;weeks 2;rise 1;k a 5 4 4");
        y.begin(1);
        y.week();
        y.chip(0);
        y.week();
        Doc.due("triple, no such team", y.regret(1), 0);
        y.undo();
        y.undo();
        y.undo();
        y.chip(0);
        y.week();
        Doc.due("triple, there was one", y.regret(0), -4);
        Doc.says(33, "HIDDEN: no such WEEK, it wasn't played.");
        Doc.bounds("week of three", x::regret, 0, 2, HIDDEN);
        Doc.bounds("week of two, one was played", y::regret, 0, 0, HIDDEN);
        SalaryLid z = Check.told(FOUR);
        Doc.due("not begun", z.regret(0), HIDDEN);
        z.begin(1);
        Doc.due("not played", z.regret(0), HIDDEN);
        Doc.due("no league", new SalaryLid().regret(0), HIDDEN);
    }

    // ---- promises 34 and 35 ----

    private static final long[] SEEDS = {0, 1, 2, 3, 4, 5, 6, 7, 99, -1, -2, Long.MIN_VALUE, Long.MIN_VALUE + 1, Long.MAX_VALUE, 1L << 33, 1L << 32};

    /** The draw in numbers without a bound, as the document tells it. */
    private static int draw(long seed, int m) {
        BigInteger round = BigInteger.ONE.shiftLeft(64);
        BigInteger x = BigInteger.valueOf(seed).multiply(new BigInteger("6364136223846793005"));
        x = x.add(new BigInteger("1442695040888963407")).mod(round);
        return x.shiftRight(33).mod(BigInteger.valueOf(m)).intValue();
    }

    private static void rivals() {
        Doc.says(34, "RIVAL by a SEED x: x becomes x times 6364136223846793005 and 1442695040888963407 (64 bits, going round),"
            + " a draw of m is x shifted right by 33, without sign, modulo m;");
        for (int m = 1; m <= 16; m++) {
            StringBuilder text = new StringBuilder("slots 1 0 0 0;weeks 1");
            for (int i = 0; i < m; i++) {
                text.append(";k a1 ").append(i);
            }
            SalaryLid x = Check.told(text.toString());
            for (long seed : SEEDS) {
                Doc.due("seed " + seed + " of " + m, x.rival(seed, 1), 1L << draw(seed, m));
                Doc.due("score, seed " + seed + " of " + m, x.rival(seed, 0), 2L * draw(seed, m));
            }
        }
        Doc.says(34, "it plays all WEEKS, its best captain once more each.");
        SalaryLid y = Check.told("slots 2 0 0 0;weeks 3;k a 1 5 -3 4;k b 1 4 -2 4");
        Doc.due("its score", y.rival(0, 0), 9 + 5 - 5 - 2 + 8 + 4);
        y.begin(3);
        y.week();
        y.week();
        y.week();
        Doc.due("when all weeks are played", y.rival(0, 0), 9 + 5 - 5 - 2 + 8 + 4);
        Doc.says(34, "RIVAL: 0 its SCORE, 1 the TEAM.");
        Doc.due("its team", y.rival(0, 1), 3);
    }

    /** Seeds by which the 33 bits that are shifted out become all 0 or all 1: one less or more there would be another draw. */
    private static void rivalsOfAnyBit() {
        BigInteger round = BigInteger.ONE.shiftLeft(33);
        BigInteger factor = new BigInteger("6364136223846793005");
        BigInteger addend = new BigInteger("1442695040888963407");
        StringBuilder text = new StringBuilder("slots 1 0 0 0;weeks 1");
        for (int i = 0; i < 13; i++) {
            text.append(";k a1 ").append(i);
        }
        SalaryLid x = Check.told(text.toString());
        for (BigInteger low : new BigInteger[] {BigInteger.ZERO, round.subtract(BigInteger.ONE)}) {
            long seed = low.subtract(addend).multiply(factor.modInverse(round)).mod(round).longValue();
            for (long high = 0; high < 16; high++) {
                long more = seed + (high << 33);
                Doc.due("seed " + more, x.rival(more, 1), 1L << draw(more, 13));
            }
        }
    }

    private static void rivalsUnderTheLid() {
        Doc.says(34, "of all TEAMS with PRICES (as they were told) no more than the lid, as bits rising, the one that a draw of how many there are tells:");
        int[][] teams = {{}, {3}, {3, 5, 6}, {3, 5, 6}, {3, 5, 6}, {3, 5, 6, 9, 10}, {3, 5, 6, 9, 10, 12}, {3, 5, 6, 9, 10, 12}};
        for (int lid = 9; lid <= 16; lid++) {
            SalaryLid x = Check.told(TWOS.replace("weeks 1", "lid " + lid + ";weeks 1"));
            int[] under = teams[lid - 9];
            for (long seed : SEEDS) {
                Doc.due("lid " + lid + ", seed " + seed, x.rival(seed, 1), under.length == 0 ? HIDDEN : under[draw(seed, under.length)]);
            }
        }
        // As now they are 6 and 5, as they were told 5 and 6.
        SalaryLid y = Check.told(MOVED.replace("weeks 2", "lid 5;weeks 2"));
        y.begin(1);
        y.week();
        for (long seed : SEEDS) {
            Doc.due("as they were told, seed " + seed, y.rival(seed, 1), 1);
        }
    }

    private static void rivalHidden() {
        Doc.says(34, "HIDDEN: no LEAGUE, there is none, no such what.");
        SalaryLid x = Check.told("slots 1 0 0 0;lid 6;weeks 1;k a 6 1");
        Doc.bounds("what", what -> x.rival(7, what), 0, 1, HIDDEN);
        SalaryLid y = Check.told("slots 1 0 0 0;lid 5;weeks 1;k a 6 1");
        Doc.due("one above the lid, its score", y.rival(7, 0), HIDDEN);
        Doc.due("one above the lid, its team", y.rival(7, 1), HIDDEN);
        Doc.due("no team at all", Check.told("slots 2 0 0 0;k a 1 1 1 1").rival(7, 0), HIDDEN);
        Doc.due("no league", new SalaryLid().rival(7, 0), HIDDEN);
    }

    private static void ahead() {
        Doc.says(35, "How many of RIVALS with SEEDS from, from and 1, .. (n of them, 1 to 50) have more than SCORES together by now.");
        SalaryLid x = Check.told("slots 2 0 0 0;weeks 1;k a 1 0;k b 1 1");
        x.begin(3);
        Doc.due("0 to their 2", x.ahead(0, 50), 50);
        x.week();
        Doc.due("1 to their 2", x.ahead(0, 50), 50);
        x.undo();
        x.captain(1);
        x.week();
        Doc.due("2 to their 2", x.ahead(0, 50), 0);
        x.undo();
        x.chip(0);
        x.week();
        Doc.due("3 to their 2", x.ahead(0, 50), 0);
        // The second one alone has more than 0.
        SalaryLid y = Check.told("slots 1 0 0 0;weeks 1;k a 1 0;k b 1 1;k c 1 -1");
        y.begin(1);
        for (long from : new long[] {0, 5, -3, -50, Long.MAX_VALUE, Long.MAX_VALUE - 1, Long.MIN_VALUE}) {
            int want = 0;
            for (int n = 1; n <= 50; n++) {
                want += draw(from + n - 1, 3) == 1 ? 1 : 0;
                Doc.due("from " + from + ", " + n, y.ahead(from, n), want);
            }
        }
    }

    private static void aheadRefused() {
        Doc.says(35, "NONE: not BEGUN, no TEAM to draw, out of bounds.");
        SalaryLid x = Check.told(FOUR);
        Doc.due("not begun", x.ahead(0, 1), NONE);
        x.begin(1);
        Doc.bounds("n", n -> x.ahead(0, n), 1, 50, NONE);
        x.undo();
        Doc.due("begun undone", x.ahead(0, 1), NONE);
        Doc.due("no league", new SalaryLid().ahead(0, 1), NONE);
        SalaryLid y = Check.told("slots 1 0 0 0;lid 5;weeks 1;k a 6 1");
        y.begin(1);
        Doc.due("no team to draw", y.ahead(0, 1), NONE);
        x.begin(1);
        x.week();
        x.week();
        Doc.bounds("all weeks are played, n", n -> x.ahead(0, n), 1, 50, NONE);
    }

    // Keeper i and back 8 + i have i points in each week: as many teams, players, weeks as can be.
    private static String largest() {
        StringBuilder text = new StringBuilder("slots 3 3 0 0;weeks 6");
        for (int i = 0; i < 16; i++) {
            text.append(i < 8 ? ";k a1" : ";b a1").append((" " + i % 8).repeat(6));
        }
        return text.toString();
    }

    private static void largestLeague() {
        SalaryLid x = Check.told(largest());
        int top = 7 << 5 | 7 << 13;
        Doc.says(20, "BEST of a WEEK under L: 0 the POINTS, 1 the TEAM, 2 its captain.");
        for (int week = 0; week < 6; week++) {
            best(x, week, 5, HIDDEN, HIDDEN, HIDDEN);
            best(x, week, 6, 43, top, 7);
            Doc.due("must", x.must(week, 6), top);
            Doc.due("least", x.least(week, 43), 6);
            stair(x, week, 6, 43);
        }
        steady(x, 5, HIDDEN, HIDDEN);
        steady(x, 6, 43, top);
        Doc.says(30, "How many TEAMS whose PRICES (as now) together are no more than L have both PLAYERS (or the one, told twice).");
        Doc.due("one", x.held(6, 15, 15), 21 * 56);
        Doc.due("both", x.held(6, 7, 15), 21 * 21);
        Doc.due("both of a place", x.held(6, 14, 15), 6 * 56);
        Doc.says(41, "3 how many are OUTDONE,");
        int[] most = {7, 0, 7, 14, 0, 0};
        for (int what = 0; what < 6; what++) {
            Doc.due("most " + what, x.most(what), most[what]);
        }
        Doc.due("the last one of each place", x.outdone(15), NONE);
        Doc.due("one ahead of him", x.outdone(14), 15);
        Doc.says(34, "RIVAL: 0 its SCORE, 1 the TEAM.");
        for (long seed : SEEDS) {
            int team = x.rival(seed, 1);
            Doc.due("a team", x.team(team), 0);
            Doc.due("its score", x.rival(seed, 0), 6 * scoreOfLargest(team));
        }
        x.begin(7 | 7 << 8);
        Doc.says(24, "The best SWAP: 0 who is sold, 1 who is bought, 2 its GAIN.");
        Doc.due("sold", x.bestSwap(0), 0);
        Doc.due("bought", x.bestSwap(1), 7);
        Doc.due("gain", x.bestSwap(2), 42);
        Doc.says(31, "TWO SWAPS: 0 who is sold first, 1 bought, 2 sold second, 3 bought, 4 GAIN together.");
        int[] two = {0, 7, 8, 15, 84};
        for (int what = 0; what < 5; what++) {
            Doc.due("what " + what, x.twoSwaps(what), two[what]);
        }
        for (int week = 0; week < 6; week++) {
            x.week();
        }
        Doc.says(33, "REGRET.");
        Doc.due("the last week", x.regret(5), 43 - 6);
        Doc.due("the price of all", x.price(65535), 16);
    }

    private static int scoreOfLargest(int team) {
        int sum = 0;
        int most = 0;
        for (int i = 0; i < 16; i++) {
            if ((team >> i & 1) != 0) {
                sum += i % 8;
                most = Math.max(most, i % 8);
            }
        }
        return sum + most;
    }
}
