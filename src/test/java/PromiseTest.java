/** One method a promise: ordinary inputs, the edges that the document names, wrong inputs. */
final class PromiseTest {
    private static final int NONE = SalaryLid.NONE;
    private static final int HIDDEN = SalaryLid.HIDDEN;

    // Teams: {0,2,4} 21, {0,2,5} 37, {0,3,4} 25, {0,3,5} 41, {0,4,5} 49,
    // {1,2,3} 14, {1,2,4} 22, {1,2,5} 38, {1,3,4} 26, {1,3,5} 42, {1,4,5} 50; {0,2,3} has three of club a.
    private static final String SMALL =
        "slots 1 2 0 0;lid 40;club 2;weeks 3;cost 2;rise 8;fall 2;"
        + "k a 10 5 9 1;k b 8 4 2 8;b a 12 8 8 0;b a 9 3 3 3;b c 11 2 9 9;b d 5 1 1 1";

    private static final String DUEL = "slots 1 0 0 0;lid 20;weeks 2;cost 4;rise 99;fall 0;k a 5 3 10;k b 5 6 1";

    // Its only player rises each week, so that the worth stays behind his price.
    private static final String DEAR = "slots 1 0 0 0;lid 5;weeks 3;rise 1;k a 5 1 1 1";

    public static void main(String[] args) {
        promise1();
        promise2();
        promise3();
        promise4Parts();
        promise4Numbers();
        promise4Players();
        promise5();
        promise6();
        promise7();
        promise8();
        promise9();
        promise10();
        promise11();
        promise11Prices();
        promise12();
        promise13();
        promise14();
        promise15();
        promise15Free();
        promise15Prices();
        promise15SixWeeks();
        promise16();
        promise17();
        promise18();
        promise19();
        promise20();
        promise21();
        promise22();
        promise23();
        promise24();
        promise25();
        promise25FirstWeek();
        promise25Counts();
        promise25Dear();
        promise26();
        promise27();
        promise28();
        promise29();
        promise30();
        promise31();
        promise32();
        promise33();
        promise34();
        promise35();
        promise36();
        promise37();
        promise38and39();
        promise40();
        promise41();
        promise42();
        Check.finish();
    }

    private static void due(String what, long got, long want) {
        Check.due(what, got, want);
    }

    private static SalaryLid small() {
        return Check.told(SMALL);
    }

    private static SalaryLid begun(int team) {
        SalaryLid x = small();
        x.begin(team);
        return x;
    }

    private static SalaryLid playedOut() {
        SalaryLid x = begun(14);
        x.week();
        x.week();
        x.week();
        return x;
    }

    private static void promise1() {
        SalaryLid x = new SalaryLid();
        due("1 rule", x.rule(0), HIDDEN);
        due("1 tape", x.count(0), 0);
        due("1 acts", x.count(1), 0);
        due("1 now", x.now(0), HIDDEN);
        due("1 back", x.back(), NONE);
        for (int what = 0; what < 5; what++) {
            due("1 status", x.status(what), 0);
        }
        SalaryLid y = small();
        due("1 another object is none of it", new SalaryLid().rule(0), HIDDEN);
        due("1 and this one stays", y.rule(0), 1);
        due("NONE", NONE, -1);
        due("HIDDEN", HIDDEN, -1000000);
    }

    private static void promise2() {
        SalaryLid x = new SalaryLid();
        due("2 the highest first", x.feed(0x736c6f74, 0x73000000, 0, 0, 0), 5);
        due("2 as it is read", x.fault(), 5);
        due("2 zeros are left out", x.feed(0, 0x00200031, 0x20003000, 0x20300020, 0x00000030), 13);
        due("2 their order", x.fault(), 13);
        due("2 nothing", x.feed(0, 0, 0, 0, 0), 13);
        due("2 a byte above 127", x.feed(0xff000000, 0, 0, 0, 0x80), 15);
        due("2 it is a fault", x.fault(), 13);
        SalaryLid y = new SalaryLid();
        for (int k = 1; k <= 20; k++) {
            due("2 twenty more", y.feed(-1, -1, -1, -1, -1), 20 * k);
        }
        due("2 one more than 400", y.feed(0, 0, 0, 0, 1), NONE);
        due("2 nothing more is no more", y.feed(0, 0, 0, 0, 0), 400);
        y.end(381);
        due("2 twenty are too many", y.feed(-1, -1, -1, -1, -1), NONE);
        due("2 none of them came", y.count(0), 381);
        due("2 nineteen are not", y.feed(-1, -1, -1, -1, 0x00ffffff), 400);
    }

    private static void promise3() {
        SalaryLid x = new SalaryLid();
        Check.feed(x, "slots 1 0 0 0;lid 5xx");
        Check.due("3 more than there are", x.end(22), false);
        Check.due("3 below 0", x.end(-1), false);
        due("3 it stays", x.count(0), 21);
        Check.due("3 all", x.end(21), true);
        due("3 the fault ahead", x.fault(), 19);
        Check.due("3 fewer", x.end(19), true);
        due("3 the first ones", x.fault(), 19);
        due("3 how many", x.count(0), 19);
        Check.due("3 not what was there", x.end(20), false);
        Check.due("3 none", x.end(0), true);
        Check.due("3 none of none", x.end(0), true);
        Check.due("3 one of none", x.end(1), false);
    }

    private static void fault(String text, int want) {
        due("4 fault of '" + text + "'", Check.faultOf(text), want);
    }

    private static void promise4Parts() {
        fault("", 0);
        fault("   ", 3);
        fault("slot 1 0 0 0;k a 1 1 1 1", 0);
        fault("slotss 1 0 0 0", 0);
        fault(" Slots 1 0 0 0", 1);
        fault(";slots 1 0 0 0", 0);
        fault("slots1 0 0 0;k a1 1 1 1", NONE);
        fault("  slots  1  0  0  0  ;  k  a  1  1  1  1  ", NONE);
        fault("slots 1 0 0 0;k a 1 1 1 1;", 26);
        fault("slots 1 0 0 0;k a 1 1 1 1; ", 27);
        fault("slots 1 0 0 0;;k a 1 1 1 1", 14);
        fault("slots 1 0 0 0 k a 1 1 1 1", 14);
        fault("slots 1 0 0 0;slots 1 0 0 0", 14);
        fault("slots 1 0 0 0;cap 1", 14);
        fault("slots 1 0 0 0;5", 14);
        fault("slots 1 0 0 0;lid", 17);
        fault("slots 1 0 0 0;lid x", 18);
        fault("slots 1 0 0 0;lid -5", 18);
        fault("slots 1 0 0 0;lid 5", 19);
        fault("slots 1 0 0 0;lid 5 5", 20);
        fault("slots 1 0 0 0;lid5;club1;weeks1;cost0;rise1;fall0;k a1 1", NONE);
        fault("slots 1 0 0 0;fall 0;rise 1;cost 0;weeks 1;club 1;lid 5;k a1 1", NONE);
        fault("slots 1 0 0 0;cost 1;cost 1", 21);
        fault("slots 1 0 0 0;k a 1 1 1 1;cost 1", 26);
        fault("slots 1 0 0 0;k a 1 1 1 1\n", 25);
    }

    private static void promise4Numbers() {
        fault("slots 4 0 0 0;k a 1 1 1 1", 6);
        fault("slots 03 0 0 0;k a 1 1 1 1", 6);
        fault("slots 0 0 0 0;k a 1 1 1 1", 12);
        fault("slots 3 3 0 1;k a 1 1 1 1", 12);
        fault("slots 3 3 3", 11);
        fault("slots 3 3 0 0;k a 1 1 1 1", NONE);
        fault("slots 0 0 0 1;k a 1 1 1 1", NONE);
        String[] rules = {"lid", "club", "weeks", "cost", "rise", "fall"};
        int[] low = {1, 1, 1, 0, 1, 0};
        int[] high = {599, 6, 6, 9, 99, 99};
        for (int k = 0; k < 6; k++) {
            String head = "slots 1 0 0 0;" + rules[k] + " ";
            fault(head + low[k], head.length() + 1);
            fault(head + high[k], head.length() + ("" + high[k]).length());
            fault(head + (high[k] + 1), head.length());
            fault(head + (low[k] - 1), head.length());
            boolean one = k == 1 || k == 2 || k == 3;
            fault(head + "01", one ? head.length() : head.length() + 2);
            fault(head + "001", one ? head.length() : head.length() + 3);
            fault(head + "0001", head.length());
        }
        fault("slots 1 0 0 0;lid 99999999999999999999", 18);
        fault("slots 1 0 0 0;lid 4294967297", 18);
        fault("slots 1 0 0 0;weeks 1;k a 0 1", 26);
        fault("slots 1 0 0 0;weeks 1;k a 100 1", 26);
        fault("slots 1 0 0 0;weeks 1;k a 099 099", NONE);
        fault("slots 1 0 0 0;weeks 1;k a 0099 1", 26);
        fault("slots 1 0 0 0;weeks 1;k a 99 100", 29);
        fault("slots 1 0 0 0;weeks 1;k a 9 -99", NONE);
        fault("slots 1 0 0 0;weeks 1;k a 9 -100", 29);
        fault("slots 1 0 0 0;weeks 1;k a 9 - 0", NONE);
        fault("slots 1 0 0 0;weeks 1;k a -9 1", 26);
        fault("slots 1 0 0 0;weeks 1;k a 9 -", 29);
        fault("slots 1 0 0 0;weeks 1;k a 9 - -1", 30);
        fault("slots 1 0 0 0;weeks 1;k a 9 +1", 28);
    }

    private static void promise4Players() {
        fault("slots 1 0 0 0;k a 1 1 1", 23);
        fault("slots 1 0 0 0;k a 1 1 1 1 1", 26);
        fault("slots 1 0 0 0;weeks 6;k a 1 1 2 3 4 5 6", NONE);
        fault("slots 1 0 0 0;weeks 6;k a 1 1 2 3 4 5;k", 37);
        fault("slots 1 0 0 0;ka 1 1 1 1", 14);
        fault("slots 1 0 0 0;k aa 1 1 1 1", 16);
        fault("slots 1 0 0 0;k g 1 1 1 1", 16);
        fault("slots 1 0 0 0;k 1 1 1 1 1", 16);
        fault("slots 1 0 0 0;k", 15);
        fault("slots 1 0 0 0;kz", 14);
        fault("slots 1 0 0 0;k`", 15);
        fault("slots 1 0 0 0;k{", 15);
        fault("slots 1 0 0 0;k a/", 17);
        fault("slots 1 0 0 0;k a:", 17);
        fault("slots 1 0 0 0;a a 1 1 1 1", 14);
        fault("slots 1 0 0 0;k f 1 1 1 1;b e 1 1 1 1;m d 1 1 1 1;f c 1 1 1 1", NONE);
        StringBuilder text = new StringBuilder("slots 1 0 0 0;weeks 1");
        for (int k = 0; k < 16; k++) {
            text.append(";k a1 1");
        }
        fault(text.toString(), NONE);
        fault(text + ";", text.length() + 1);
        fault(text + "; k a1 1", text.length() + 2);
        fault(text + ";g", text.length() + 1);
    }

    private static void promise5() {
        SalaryLid x = new SalaryLid();
        due("5 an empty tape", x.league(), NONE);
        Check.feed(x, "slots 1 0 0 0;k a 1 1 1");
        due("5 a fault", x.league(), NONE);
        due("5 the tape stays", x.count(0), 23);
        due("5 no league", x.rule(10), HIDDEN);
        Check.feed(x, " 1");
        due("5 a league", x.league(), 1);
        due("5 the tape is empty", x.count(0), 0);
        x.begin(1);
        x.image();
        Check.feed(x, "slots");
        due("5 a fault later", x.league(), NONE);
        due("5 all stays", x.now(6), 1);
        due("5 the rules stay", x.rule(11), 1);
        due("5 the players stay", x.rule(10), 1);
        due("5 the acts stay", x.count(1), 1);
        due("5 the image stays", x.back(), 0);
        x.end(0);
        x.captain(5);
        x.week();
        x.chip(0);
        Check.feed(x, SMALL);
        due("5 another league", x.league(), 6);
        due("5 nothing begun", x.now(0), HIDDEN);
        due("5 no acts", x.undo(), NONE);
        due("5 no image", x.back(), NONE);
        due("5 what was refused stays", x.status(1), 1);
        due("5 its rules", x.rule(4), 40);
        due("5 its teams", x.teams(99), 11);
        due("5 its size", x.rule(11), 3);
        due("5 its prices as told", x.price(63), 55);
        due("5 no week was played", x.image(), 0);
        x.begin(14);
        now("a new season", x, 11, 40, 0, 1, 0, 1, 14, 0, NONE, 0, 0);
        x.week();
        x.week();
        Check.feed(x, "slots 0 0 1 0;m f 9 1 2 3");
        due("5 one more", x.league(), 1);
        due("5 bounds of old rules are gone", x.rule(4), 99);
        due("5 old players are gone", Check.player(x, 1, 0), Check.THROWN);
        due("5 old sets are gone", x.team(1), 0);
        due("5 its size", x.rule(11), 1);
        due("5 its club", x.most(4), 5);
        due("5 its price as told", x.price(1), 9);
        due("5 it is steady from week 0 on", x.steady(9, 0), 2);
        due("5 its best", x.best(2, 9, 0), 6);
        due("5 its rival", x.rival(4, 1), 1);
    }

    private static void promise6() {
        SalaryLid x = Check.told("slots 1 2 3 0;lid 123;club 5;weeks 4;cost 7;rise 33;fall 22;k a 1 1 1 1 1;f b 2 1 1 1 1");
        int[] want = {1, 2, 3, 0, 123, 5, 4, 7, 33, 22, 2, 6};
        for (int what = 0; what < 12; what++) {
            due("6 rule " + what, x.rule(what), want[what]);
        }
        due("6 rule 12", x.rule(12), HIDDEN);
        due("6 rule -1", x.rule(-1), HIDDEN);
        SalaryLid y = Check.told("slots 0 0 0 3;f a 1 1 1 1");
        int[] without = {0, 0, 0, 3, 99, 6, 3, 4, 9, 1, 1, 3};
        for (int what = 0; what < 12; what++) {
            due("6 without " + what, y.rule(what), without[what]);
        }
        due("6 no league", new SalaryLid().rule(10), HIDDEN);
    }

    private static void promise7() {
        SalaryLid x = Check.told("slots 1 1 1 1;k a 1 1 2 -4;b c 99 0 0 0;m f 50 -9 -9 -9;f e 7 9 9 9");
        int[][] want = {{0, 0, 1, -1, -1, -1}, {1, 2, 99, -1, -1, 0}, {2, 5, 50, -1, -1, -27}, {3, 4, 7, -1, -1, 27}};
        for (int i = 0; i < 4; i++) {
            for (int what = 0; what < 6; what++) {
                due("7 player " + i + " " + what, Check.player(x, i, what), want[i][what]);
            }
        }
        due("7 what 6", Check.player(x, 0, 6), Check.THROWN);
        due("7 what -1", Check.player(x, 0, -1), Check.THROWN);
        due("7 player 4", Check.player(x, 4, 0), Check.THROWN);
        due("7 player -1", Check.player(x, -1, 0), Check.THROWN);
        due("7 no league", Check.player(new SalaryLid(), 0, 0), Check.THROWN);
        SalaryLid y = begun(14);
        due("7 bought", Check.player(y, 2, 3), 12);
        due("7 not owned", Check.player(y, 0, 3), NONE);
        due("7 not owned brings", Check.player(y, 0, 4), NONE);
        y.week();
        due("7 price rises", Check.player(y, 2, 2), 13);
        due("7 bought stays", Check.player(y, 2, 3), 12);
        due("7 half of 1 is 0", Check.player(y, 2, 4), 12);
        y.week();
        due("7 half of 2 is 1", Check.player(y, 2, 4), 13);
        due("7 fallen below", Check.player(y, 1, 4), 7);
    }

    private static void promise8() {
        SalaryLid x = Check.told("slots 1 0 0 0;weeks 2;k a 1 -7 99;k a 1 0 -0");
        due("8", x.points(0, 0), -7);
        due("8", x.points(0, 1), 99);
        due("8", x.points(1, 1), 0);
        due("8 week 2", x.points(0, 2), HIDDEN);
        due("8 week -1", x.points(0, -1), HIDDEN);
        due("8 player 2", x.points(2, 0), HIDDEN);
        due("8 player -1", x.points(-1, 0), HIDDEN);
        due("8 no league", new SalaryLid().points(0, 0), HIDDEN);
    }

    private static void now(String when, SalaryLid x, int... want) {
        for (int what = 0; what < want.length; what++) {
            due("9 " + when + ", now " + what, x.now(what), want[what]);
        }
    }

    private static void promise9() {
        SalaryLid x = small();
        due("9 not begun", x.now(2), HIDDEN);
        x.begin(14);
        now("begun", x, 11, 40, 0, 1, 0, 1, 14, 0, NONE, 0, 0);
        due("9 what 11", x.now(11), HIDDEN);
        due("9 what -1", x.now(-1), HIDDEN);
        x.swap(3, 4);
        x.captain(2);
        x.chip(0);
        now("swapped", x, 9, 40, 0, 1, 1, 2, 22, 1, 0, 0, 0);
        x.week();
        now("a week", x, 9, 39, 1, 1, 0, 2, 22, 1, NONE, 30, 0);
        x.loan(26);
        now("on loan", x, 9, 39, 1, 1, 0, 2, 22, 5, 2, 30, 26);
        x.week();
        now("two weeks", x, 9, 40, 2, 2, 0, 2, 22, 5, NONE, 53, 0);
        x.week();
        now("all weeks", x, 9, 40, 3, 2, 0, 2, 22, 5, NONE, 70, 0);
    }

    private static void promise10() {
        SalaryLid x = new SalaryLid();
        due("10 no league", x.begin(14), NONE);
        due("10 status 0", x.status(0), 1);
        Check.feed(x, SMALL.replace("lid 40", "lid 29"));
        x.league();
        due("10 bits of no player", x.begin(64 + 14), NONE);
        due("10 below 0", x.begin(-1), NONE);
        due("10 status 1", x.status(1), 2);
        due("10 slots", x.begin(6), NONE);
        due("10 club", x.begin(13), NONE);
        due("10 nobody", x.begin(0), NONE);
        due("10 status 3", x.status(3), 3);
        due("10 above the lid", x.begin(22), NONE);
        due("10 status 2", x.status(2), 1);
        due("10 no act", x.count(1), 0);
        due("10 just the lid", x.begin(14), 0);
        due("10 the lowest is captain", x.now(5), 1);
        due("10 begun", x.begin(14), NONE);
        due("10 begun, wrong bits", x.begin(-1), NONE);
        due("10 status 0 again", x.status(0), 3);
        due("10 one act", x.count(1), 1);
        due("10 money", small().begin(50), 16);
    }

    private static void promise11() {
        SalaryLid x = small();
        due("11 not begun", x.swap(1, 0), NONE);
        due("11 status 0", x.status(0), 1);
        x.begin(38);
        due("11 it isn't owned", x.swap(0, 1), NONE);
        due("11 no player sold", x.swap(-1, 0), NONE);
        due("11 no player sold", x.swap(32, 0), NONE);
        due("11 no player bought", x.swap(1, 6), NONE);
        due("11 no player bought", x.swap(1, -1), NONE);
        due("11 it is owned", x.swap(1, 2), NONE);
        due("11 the same one", x.swap(1, 1), NONE);
        due("11 status 1", x.status(1), 7);
        due("11 another place", x.swap(1, 3), NONE);
        due("11 status 3", x.status(3), 1);
        due("11 money", x.swap(5, 3), 11);
        due("11 club", x.swap(1, 0), NONE);
        due("11 status 3 again", x.status(3), 2);
        due("11 not the captain", x.now(5), 1);
        due("11 the team", x.now(6), 14);
        x.captain(3);
        due("11 the captain", x.swap(3, 5), 15);
        due("11 the one bought is captain", x.now(5), 5);
        due("11 swaps", x.now(4), 2);
        due("11 sold", Check.player(x, 3, 3), NONE);
        SalaryLid y = begun(22);
        y.loan(14);
        due("11 loan", y.swap(1, 0), NONE);
        due("11 loan ahead of team", y.swap(1, 3), NONE);
        due("11 status 4", y.status(4), 2);
        due("11 unknown ahead of loan", y.swap(0, 1), NONE);
        due("11 status 1", y.status(1), 1);
        SalaryLid z = playedOut();
        due("11 all played", z.swap(3, 4), NONE);
        due("11 status 0", z.status(0), 1);
    }

    private static void promise11Prices() {
        SalaryLid x = Check.told("slots 1 0 0 0;lid 10;weeks 3;rise 5;fall 1;k a 8 5 5 5;k b 9 2 2 2;k c 10 2 2 2;k d 11 2 2 2;k e 12 1 2 2");
        x.begin(1);
        due("11 more than there is", x.swap(0, 3), NONE);
        due("11 status 2", x.status(2), 1);
        due("11 to the last", x.swap(0, 2), 0);
        due("11 another way", x.swap(2, 0), 2);
        x.week();
        x.week();
        due("11 price", Check.player(x, 0, 2), 10);
        due("11 it brings 9", x.swap(0, 4), 0);
        due("11 bought as now", Check.player(x, 4, 3), 11);
        due("11 it brought half", x.swap(4, 3), 0);
        due("11 worth", x.now(1), 11);
    }

    private static void promise12() {
        SalaryLid x = small();
        due("12 not begun", x.captain(1), NONE);
        due("12 status 0", x.status(0), 1);
        x.begin(14);
        due("12 is captain", x.captain(1), NONE);
        due("12 isn't owned", x.captain(0), NONE);
        due("12 no player", x.captain(6), NONE);
        due("12 no player", x.captain(-1), NONE);
        due("12 no player", x.captain(33), NONE);
        due("12 status 1", x.status(1), 5);
        due("12 who was", x.captain(3), 1);
        due("12 who was", x.captain(2), 3);
        due("12 now", x.now(5), 2);
        due("12 an act", x.count(1), 3);
        due("12 counts", x.week(), 23);
        SalaryLid z = playedOut();
        due("12 all played", z.captain(3), NONE);
        due("12 status 0", z.status(0), 1);
    }

    private static void promise13() {
        SalaryLid x = small();
        due("13 not begun", x.chip(0), NONE);
        due("13 status 0", x.status(0), 1);
        x.begin(14);
        due("13 loan is no such", x.chip(2), NONE);
        due("13 none", x.chip(-1), NONE);
        due("13 none", x.chip(3), NONE);
        due("13 status 1", x.status(1), 3);
        due("13 triple", x.chip(0), 2);
        due("13 again", x.chip(0), NONE);
        due("13 one a week", x.chip(1), NONE);
        due("13 status 4", x.status(4), 2);
        due("13 thrice", x.week(), 4 + 8 + 3 + 4 + 4);
        due("13 was played", x.chip(0), NONE);
        x.swap(3, 4);
        due("13 wild behind a swap", x.chip(1), 1);
        due("13 no longer one of this week", x.chip(0), NONE);
        due("13 status 4", x.status(4), 4);
        x.week();
        due("13 both were", x.chip(1), NONE);
        x.week();
        due("13 all played", x.chip(1), NONE);
        due("13 status 0", x.status(0), 2);
    }

    private static void promise14() {
        SalaryLid x = Check.told(SMALL.replace("lid 40", "lid 31"));
        due("14 not begun", x.loan(14), NONE);
        due("14 status 0", x.status(0), 1);
        x.begin(14);
        due("14 bits", x.loan(64), NONE);
        due("14 below 0", x.loan(-2147483648), NONE);
        due("14 status 1", x.status(1), 2);
        due("14 no team", x.loan(13), NONE);
        due("14 status 3", x.status(3), 1);
        due("14 more than worth", x.loan(21), NONE);
        due("14 status 2", x.status(2), 1);
        due("14 just worth", x.loan(22), 2);
        due("14 again", x.loan(22), NONE);
        due("14 chip", x.chip(1), NONE);
        due("14 status 4", x.status(4), 2);
        due("14 score", x.week(), 22);
        due("14 was played, ahead of no team", x.loan(13), NONE);
        due("14 status 4", x.status(4), 3);
        SalaryLid y = begun(14);
        y.swap(3, 4);
        due("14 behind a swap", y.loan(14), NONE);
        y.week();
        y.chip(0);
        due("14 behind a chip", y.loan(14), NONE);
        due("14 status 4", y.status(4), 2);
        y.week();
        due("14 the lowest of several", y.loan(21), 4);
        SalaryLid z = Check.told("slots 2 0 0 0;weeks 1;k a 1 1;k a 1 3;k a 1 3;k a 1 2");
        z.begin(9);
        due("14 the lowest of several", z.loan(6), 1);
        z.undo();
        due("14 of the team on loan", z.loan(9), 3);
        due("14 all played", playedOut().loan(14), NONE);
    }

    private static void promise15() {
        SalaryLid x = small();
        due("15 not begun", x.week(), HIDDEN);
        due("15 status 0", x.status(0), 1);
        x.begin(14);
        due("15 score", x.week(), 4 + 8 + 3 + 4);
        due("15 next", x.week(), 2 + 8 + 3 + 2);
        due("15 last", x.week(), 8 + 0 + 3 + 8);
        due("15 all played", x.week(), HIDDEN);
        due("15 status 0", x.status(0), 2);
        due("15 together", x.now(9), 19 + 15 + 19);
        SalaryLid y = Check.told("slots 1 0 0 0;weeks 1;k a 1 -99");
        y.begin(1);
        y.chip(0);
        due("15 below 0", y.week(), -297);
        SalaryLid z = begun(14);
        z.loan(21);
        due("15 loan", z.week(), 5 + 8 + 2 + 8);
        due("15 the team stays", z.now(6), 14);
        due("15 loan is over", z.week(), 15);
    }

    private static void promise15Free() {
        SalaryLid x = begun(14);
        x.swap(3, 4);
        x.swap(4, 5);
        x.swap(5, 3);
        due("15 two above free", x.week(), 19 - 2 * 2);
        due("15 nothing left, one more", x.now(3), 1);
        due("15 none used", x.week(), 15);
        due("15 one left, one more", x.now(3), 2);
        x.swap(3, 4);
        x.swap(4, 3);
        x.swap(3, 4);
        due("15 one above two", x.week(), 8 + 0 + 9 + 8 - 2);
        due("15 one again", x.now(3), 1);
        SalaryLid y = begun(14);
        y.swap(3, 4);
        y.swap(4, 3);
        y.chip(1);
        due("15 wild costs nothing", y.week(), 19);
        due("15 wild takes nothing", y.now(3), 2);
        y.loan(14);
        y.week();
        due("15 two at most", y.now(3), 2);
        y.swap(3, 4);
        y.week();
        due("15 one of two used", y.now(3), 2);
        SalaryLid z = begun(14);
        z.swap(3, 4);
        z.swap(4, 3);
        z.chip(0);
        due("15 triple with cost", z.week(), 19 + 4 - 2);
        due("15 free with triple", z.now(3), 1);
    }

    private static void promise15Prices() {
        SalaryLid x = Check.told("slots 1 0 0 0;weeks 2;rise 3;fall 5;k a 99 3 3;k a 1 2 2;k a 50 4 2;k a 50 5 -9;k a 50 6 1");
        x.begin(2);
        x.week();
        int[] want = {99, 1, 51, 51, 51};
        for (int i = 0; i < 5; i++) {
            due("15 price " + i, Check.player(x, i, 2), want[i]);
        }
        x.week();
        int[] then = {99, 1, 50, 50, 50};
        for (int i = 0; i < 5; i++) {
            due("15 price then " + i, Check.player(x, i, 2), then[i]);
        }
        SalaryLid y = Check.told("slots 1 0 0 0;weeks 1;k a 9 8;k a 9 9;k a 9 2;k a 9 1;k a 9 -1");
        y.begin(1);
        y.week();
        int[] bounds = {9, 10, 9, 8, 8};
        for (int i = 0; i < 5; i++) {
            due("15 price at bounds " + i, Check.player(y, i, 2), bounds[i]);
        }
    }

    private static void tale(SalaryLid x, int week, int... want) {
        for (int what = 0; what < want.length; what++) {
            due("16 tale " + week + " " + what, x.tale(week, what), want[what]);
        }
    }

    private static void promise15SixWeeks() {
        SalaryLid x = Check.told("slots 2 0 0 0;weeks 6;rise 3;fall 0;k a 5 1 2 3 4 5 6;k b 5 6 5 4 3 2 1;k c 5 0 0 0 0 0 9");
        x.begin(3);
        plan("six weeks", x, 0, 13 + 12 + 11 + 11 + 12 + 15 + 9 + 9, 10, 3, 14, 3, 15, 5, 24, NONE, 25, 0);
        for (int week = 0; week < 6; week++) {
            due("15 week " + week, x.week(), 7 + week + 1);
        }
        due("15 seventh", x.week(), HIDDEN);
        due("15 price", Check.player(x, 0, 2), 9);
        due("26 price", x.priceThen(0, 5), 9);
        due("15 price", Check.player(x, 1, 2), 9);
        due("15 not below 1, then one more", Check.player(x, 2, 2), 2);
        tale(x, 5, 13, 3, 0, NONE, 0, 89 + 6 + 7);
        due("33 week 5", x.regret(5), 6 + 9 + 9 - 13);
    }

    private static void promise16() {
        SalaryLid x = begun(14);
        due("16 not played", x.tale(0, 0), HIDDEN);
        x.swap(3, 4);
        x.captain(2);
        x.week();
        tale(x, 0, 22, 22, 2, NONE, 1, 40);
        x.swap(1, 0);
        x.swap(4, 5);
        x.chip(1);
        x.week();
        tale(x, 1, 26, 37, 2, 1, 2, 39);
        due("16 week 2 to come", x.tale(2, 0), HIDDEN);
        due("16 loan", x.loan(26), 4);
        x.week();
        tale(x, 2, 29, 26, 4, 2, 0, 39);
        tale(x, 0, 22, 22, 2, NONE, 1, 40);
        due("16 week 3", x.tale(3, 0), HIDDEN);
        due("16 week -1", x.tale(-1, 0), HIDDEN);
        due("16 what 6", x.tale(0, 6), HIDDEN);
        due("16 what -1", x.tale(0, -1), HIDDEN);
        due("16 no league", new SalaryLid().tale(0, 0), HIDDEN);
    }

    private static void promise17() {
        SalaryLid x = small();
        int[] teams = {21, 37, 25, 41, 49, 14, 22, 38, 26, 42, 50};
        for (int team : teams) {
            due("17 a team", x.team(team), 0);
        }
        due("17 bits", x.team(64 + 21), 1);
        due("17 below 0", x.team(-1), 1);
        due("17 below 0", x.team(-2147483648), 1);
        due("17 nobody", x.team(0), 2);
        due("17 all", x.team(63), 2);
        due("17 one keeper too many", x.team(23), 2);
        due("17 club", x.team(13), 3);
        due("17 no league", new SalaryLid().team(1), NONE);
    }

    private static void promise18() {
        SalaryLid x = small();
        due("18 nobody", x.price(0), 0);
        due("18 all", x.price(63), 55);
        due("18 some", x.price(33), 15);
        due("18 bits", x.price(64), NONE);
        due("18 below 0", x.price(-1), NONE);
        due("18 no league", new SalaryLid().price(0), NONE);
        x.begin(14);
        x.week();
        due("18 as now", x.price(63), 10 + 8 + 13 + 9 + 10 + 4);
    }

    private static void promise19() {
        SalaryLid x = small();
        due("19 none", x.teams(21), 0);
        due("19 one", x.teams(22), 1);
        due("19 three", x.teams(24), 3);
        due("19 all but one", x.teams(32), 10);
        due("19 all", x.teams(33), 11);
        due("19 all", x.teams(2147483647), 11);
        due("19 L 0", x.teams(0), 0);
        due("19 L below 0", x.teams(-1), NONE);
        due("19 no league", new SalaryLid().teams(5), NONE);
        x.begin(14);
        x.week();
        due("19 as now", x.teams(21), 1);
        due("19 no team at all", Check.told("slots 2 0 0 0;k a 1 1 1 1").teams(99), 0);
        SalaryLid y = Check.told("slots 3 3 0 0;weeks 1"
            + ";k a1 1;k a1 1;k a1 1;k a1 1;k a1 1;k a1 1;k a1 1;k a1 1"
            + ";b b1 1;b b1 1;b b1 1;b b1 1;b b1 1;b b1 1;b b1 1;b b1 1");
        due("19 most teams", y.teams(6), 3136);
        due("19 below them", y.teams(5), 0);
    }

    private static void promise20() {
        SalaryLid x = small();
        due("20 points", x.best(0, 40, 0), 23);
        due("20 the least of two", x.best(0, 40, 1), 14);
        due("20 captain", x.best(0, 40, 2), 2);
        due("20 under 28", x.best(0, 28, 0), 22);
        due("20 under 28", x.best(0, 28, 1), 37);
        due("20 week 1", x.best(1, 40, 0), 35);
        due("20 week 1", x.best(1, 40, 1), 21);
        due("20 the lowest captain", x.best(1, 40, 2), 0);
        due("20 week 2", x.best(2, 33, 1), 26);
        due("20 none", x.best(0, 21, 0), HIDDEN);
        due("20 L below 0", x.best(0, -1, 0), HIDDEN);
        due("20 week 3", x.best(3, 40, 0), HIDDEN);
        due("20 week -1", x.best(-1, 40, 0), HIDDEN);
        due("20 what 3", x.best(0, 40, 3), HIDDEN);
        due("20 what -1", x.best(0, 40, -1), HIDDEN);
        due("20 no league", new SalaryLid().best(0, 40, 0), HIDDEN);
        x.begin(14);
        x.week();
        due("20 a week played, prices as now", x.best(0, 22, 1), 42);
        due("20 prices as now", x.best(0, 21, 0), 12);
        SalaryLid y = Check.told("slots 2 0 0 0;weeks 1;k a 1 -5;k a 1 -3;k a 1 -4");
        due("20 all below 0", y.best(0, 9, 0), -10);
        due("20 captain below 0", y.best(0, 9, 2), 1);
    }

    private static void promise21() {
        SalaryLid x = small();
        due("21 in both", x.must(0, 40), 4);
        due("21 one alone", x.must(0, 32), 14);
        due("21 one alone", x.must(1, 40), 21);
        due("21 none", x.must(0, 21), HIDDEN);
        due("21 week 3", x.must(3, 40), HIDDEN);
        due("21 week -1", x.must(-1, 40), HIDDEN);
        due("21 no league", new SalaryLid().must(0, 40), HIDDEN);
        due("21 nobody", Check.told("slots 1 0 0 0;weeks 1;k a 1 1;k a 1 1").must(0, 1), 0);
    }

    private static void promise22() {
        SalaryLid x = small();
        due("22 all", x.least(0, -2147483648), 22);
        due("22", x.least(0, 12), 22);
        due("22", x.least(0, 13), 24);
        due("22", x.least(0, 15), 25);
        due("22", x.least(0, 22), 27);
        due("22", x.least(0, 23), 29);
        due("22 none is enough", x.least(0, 24), NONE);
        due("22 week 3", x.least(3, 1), NONE);
        due("22 week -1", x.least(-1, 1), NONE);
        due("22 no league", new SalaryLid().least(0, 1), NONE);
        x.begin(14);
        x.week();
        due("22 as now", x.least(0, 12), 21);
    }

    private static void promise23() {
        SalaryLid x = small();
        for (int i = -1; i < 7; i++) {
            due("23 nobody " + i, x.outdone(i), NONE);
        }
        x.begin(14);
        x.week();
        due("23 from now on", x.outdone(2), 4);
        x.week();
        due("23 by prices as now", x.outdone(2), 3);
        due("23 fewer points", x.outdone(0), 1);
        x.week();
        due("23 all played", x.outdone(2), NONE);
        SalaryLid y = Check.told("slots 1 0 0 0;weeks 2;k a 5 3 3;k b 5 3 3;k c 4 3 3;k d 4 3 4;b a 1 9 9;k e 4 4 3");
        due("23 the lowest who does", y.outdone(0), 2);
        due("23 the lower number of alike", y.outdone(1), 0);
        due("23 fewer points at a price", y.outdone(2), 3);
        due("23 nobody", y.outdone(3), NONE);
        due("23 another place", y.outdone(4), NONE);
        due("23 better and worse", y.outdone(5), NONE);
        due("23 no league", new SalaryLid().outdone(0), NONE);
    }

    private static void bestSwap(String when, SalaryLid x, int... want) {
        for (int what = 0; what < want.length; what++) {
            due("24 " + when + " " + what, x.bestSwap(what), want[what]);
        }
    }

    private static void promise24() {
        SalaryLid x = small();
        due("24 not begun", x.bestSwap(0), HIDDEN);
        x.begin(14);
        bestSwap("at first", x, 3, 4, 11);
        due("24 what 3", x.bestSwap(3), HIDDEN);
        due("24 what -1", x.bestSwap(-1), HIDDEN);
        x.swap(3, 4);
        bestSwap("then", x, 1, 0, 1);
        x.swap(1, 0);
        bestSwap("all that can be is worse", x, 0, 1, -1);
        x.week();
        bestSwap("of weeks to come", x, 0, 1, 0);
        x.loan(14);
        due("24 loan", x.bestSwap(0), HIDDEN);
        x.week();
        x.week();
        due("24 all played", x.bestSwap(0), HIDDEN);
        SalaryLid y = Check.told("slots 2 0 0 0;lid 4;weeks 1;k a 1 2;k a 2 2;k a 2 5;k a 4 9;k a 2 5");
        y.begin(3);
        bestSwap("the lowest of several, the money", y, 0, 2, 3);
        SalaryLid z = Check.told("slots 1 0 0 0;lid 3;weeks 1;k a 3 2;k b 4 9;b a 1 9");
        z.begin(1);
        due("24 none can be", z.bestSwap(2), HIDDEN);
    }

    private static void plan(String when, SalaryLid x, int... want) {
        for (int k = 0; k + 1 < want.length; k += 2) {
            due("25 " + when + ", plan " + want[k], x.plan(want[k]), want[k + 1]);
        }
    }

    private static void promise25() {
        SalaryLid x = Check.told(DUEL);
        due("25 not begun", x.plan(0), HIDDEN);
        x.begin(1);
        plan("at first", x, 0, 42, 1, 2, 10, 2, 20, NONE, 11, 1, 21, 0);
        plan("no such", x, -1, HIDDEN, 2, HIDDEN, 9, HIDDEN, 12, HIDDEN, 19, HIDDEN, 22, HIDDEN, -2147483648, HIDDEN);
        x.chip(0);
        plan("triple in this week", x, 0, 18 + 20, 10, 2, 20, 0, 11, 1, 21, NONE);
        x.week();
        plan("week 0 was played", x, 10, HIDDEN, 20, HIDDEN, 0, 20, 11, 1, 21, NONE);
        x.week();
        due("25 all played", x.plan(0), HIDDEN);
        due("25 all played", x.plan(1), HIDDEN);
        SalaryLid y = Check.told(DUEL.replace("cost 4", "cost 9").replace("weeks 2", "weeks 3").replace("3 10", "9 1 9").replace("6 1", "1 9 1"));
        y.begin(2);
        y.chip(0);
        y.week();
        plan("a swap each week", y, 0, 18 + 18, 11, 2, 21, NONE, 12, 1, 22, NONE);
    }

    private static void promise25FirstWeek() {
        SalaryLid x = Check.told(DUEL);
        x.begin(1);
        x.swap(0, 1);
        plan("a swap was done", x, 0, 42, 10, 2, 20, NONE, 11, 1, 21, 0);
        x.swap(1, 0);
        plan("two swaps were done", x, 0, 42, 10, 2, 20, 1, 11, 1, 21, 0);
        x.chip(1);
        plan("wild is played", x, 0, 42, 10, 2, 20, 1, 11, 1, 21, 0);
        SalaryLid y = Check.told(DUEL);
        y.begin(1);
        y.loan(1);
        plan("a worse loan is played", y, 0, 6 + 30, 10, 1, 20, 2, 11, 1, 21, 0);
        SalaryLid z = Check.told(DUEL.replace("6 1", "6 30"));
        z.begin(1);
        z.swap(0, 1);
        z.swap(1, 0);
        z.chip(0);
        plan("triple with cost", z, 0, 18 - 8 + 60, 10, 2, 20, 0, 11, 2, 21, NONE);
    }

    private static String pairs(int keepers, int backs, boolean dear) {
        StringBuilder text = new StringBuilder("slots 1 1 0 0;lid 99;weeks 1");
        for (int k = 0; k < keepers; k++) {
            text.append(dear && k == 0 ? ";k a50 1" : ";k a1 1");
        }
        for (int k = 0; k < backs; k++) {
            text.append(dear && k == 0 ? ";b a50 1" : ";b a1 1");
        }
        return text.toString();
    }

    private static void promise25Counts() {
        SalaryLid x = Check.told(pairs(5, 8, false));
        x.begin(1 | 1 << 5);
        plan("forty", x, 1, 40, 0, 4, 10, 33, 20, 0);
        SalaryLid y = Check.told(pairs(6, 7, true));
        y.begin(2 | 128);
        plan("one more", y, 1, 41, 0, -2, 10, -2, 20, -2, 11, HIDDEN, 2, HIDDEN);
    }

    private static void promise25Dear() {
        SalaryLid x = Check.told(DEAR);
        x.begin(1);
        plan("not yet too dear", x, 1, 1, 0, 2 + 2 + 3, 12, 1, 22, 0);
        x.week();
        plan("too dear", x, 1, 0, 0, -3, 11, -3, 21, -3, 10, HIDDEN, 3, HIDDEN);
        SalaryLid y = Check.told(DEAR.replace("weeks 3", "weeks 4").replace("1 1 1", "1 1 9 9") + ";k b 5 0 0 0 0");
        y.begin(1);
        y.week();
        // He is no choice, but stays when another one is on loan.
        plan("owned is no choice", y, 1, 1, 0, 0, 11, 2, 21, NONE, 13, 2, 23, NONE);
    }

    private static void promise26() {
        SalaryLid x = small();
        int[][] want = {{10, 8, 13, 9, 10, 4}, {11, 7, 14, 9, 11, 3}, {10, 8, 13, 9, 12, 2}};
        for (int week = 0; week < 3; week++) {
            for (int i = 0; i < 6; i++) {
                due("26 price of " + i + " behind " + week, x.priceThen(i, week), want[week][i]);
            }
        }
        due("26 player 6", x.priceThen(6, 0), NONE);
        due("26 player -1", x.priceThen(-1, 0), NONE);
        due("26 week 3", x.priceThen(0, 3), NONE);
        due("26 week -1", x.priceThen(0, -1), NONE);
        due("26 no league", new SalaryLid().priceThen(0, 0), NONE);
        x.begin(14);
        x.week();
        due("26 from those told on", x.priceThen(2, 1), 14);
        due("26 a week that was played", x.priceThen(2, 0), 13);
    }

    private static void promise27() {
        SalaryLid x = small();
        due("27 not begun", x.worthThen(0), HIDDEN);
        x.begin(14);
        due("27 behind 0", x.worthThen(0), 11 + 8 + 12 + 9);
        due("27 behind 1", x.worthThen(1), 11 + 7 + 13 + 9);
        due("27 behind 2", x.worthThen(2), 11 + 8 + 12 + 9);
        due("27 week 3", x.worthThen(3), HIDDEN);
        due("27 week -1", x.worthThen(-1), HIDDEN);
        x.swap(3, 4);
        due("27 owned now", x.worthThen(1), 9 + 7 + 13 + 11);
        x.week();
        due("27 it was played", x.worthThen(0), HIDDEN);
        due("27 to come", x.worthThen(1), 40);
        x.week();
        x.week();
        due("27 all played", x.worthThen(2), HIDDEN);
    }

    private static void promise28() {
        SalaryLid x = small();
        due("28 points", x.steady(40, 0), 22);
        due("28 team", x.steady(40, 1), 22);
        due("28 just its price", x.steady(31, 1), 22);
        due("28 under 30", x.steady(30, 0), 19);
        due("28 under 30", x.steady(30, 1), 14);
        due("28 none", x.steady(21, 0), HIDDEN);
        due("28 L below 0", x.steady(-5, 0), HIDDEN);
        due("28 what 2", x.steady(40, 2), HIDDEN);
        due("28 what -1", x.steady(40, -1), HIDDEN);
        due("28 no league", new SalaryLid().steady(40, 0), HIDDEN);
        x.begin(14);
        x.week();
        due("28 from now on", x.steady(40, 0), 26);
        due("28 from now on", x.steady(40, 1), 22);
        x.week();
        due("28 the last week", x.steady(40, 0), 29);
        x.week();
        due("28 all played", x.steady(40, 0), HIDDEN);
        SalaryLid y = Check.told("slots 1 0 0 0;weeks 2;k a 1 5 3;k a 1 3 9;k a 1 3 3");
        due("28 the least of several", y.steady(9, 1), 1);
        due("28 its captain twice", y.steady(9, 0), 6);
    }

    private static void promise29() {
        SalaryLid x = small();
        int[][] want = {{22, 12}, {24, 14}, {25, 21}, {27, 22}, {29, 23}};
        due("29 how many", x.stairs(0, NONE, 0), 5);
        due("29 what isn't asked", x.stairs(0, NONE, -77), 5);
        for (int i = 0; i < 5; i++) {
            due("29 L of " + i, x.stairs(0, i, 0), want[i][0]);
            due("29 points of " + i, x.stairs(0, i, 1), want[i][1]);
        }
        due("29 i 5", x.stairs(0, 5, 0), HIDDEN);
        due("29 i far", x.stairs(0, 2147483647, 0), HIDDEN);
        due("29 i -2", x.stairs(0, -2, 0), HIDDEN);
        due("29 what 2", x.stairs(0, 0, 2), HIDDEN);
        due("29 what -1", x.stairs(0, 0, -1), HIDDEN);
        due("29 week 3", x.stairs(3, NONE, 0), HIDDEN);
        due("29 week -1", x.stairs(-1, 0, 0), HIDDEN);
        due("29 no league", new SalaryLid().stairs(0, NONE, 0), HIDDEN);
        x.begin(14);
        x.week();
        due("29 as now", x.stairs(0, 0, 0), 21);
        SalaryLid y = Check.told("slots 2 0 0 0;k a 1 1 1 1");
        due("29 no team", y.stairs(0, NONE, 0), 0);
        due("29 no team", y.stairs(0, 0, 0), HIDDEN);
        SalaryLid z = Check.told("slots 3 3 0 0;lid 599;weeks 1;k a99 -99;k a99 -99;k a99 -99;b a99 -99;b a99 -99;b a99 -99");
        due("29 the dearest team", z.stairs(0, 0, 0), 594);
        due("29 with the fewest points", z.stairs(0, 0, 1), -693);
    }

    private static void promise30() {
        SalaryLid x = small();
        due("30 one", x.held(40, 2, 2), 5);
        due("30 both", x.held(40, 2, 4), 2);
        due("30 both, told the other way", x.held(40, 4, 2), 2);
        due("30 no team has both", x.held(40, 0, 1), 0);
        due("30 L", x.held(32, 2, 4), 1);
        due("30 L 0", x.held(0, 2, 2), 0);
        due("30 L below 0", x.held(-1, 2, 2), NONE);
        due("30 i 6", x.held(40, 6, 2), NONE);
        due("30 i -1", x.held(40, -1, 2), NONE);
        due("30 j 6", x.held(40, 2, 6), NONE);
        due("30 j -1", x.held(40, 2, -1), NONE);
        due("30 no league", new SalaryLid().held(9, 0, 0), NONE);
        x.begin(14);
        x.week();
        due("30 as now", x.held(21, 5, 5), 1);
    }

    private static void twoSwaps(String when, SalaryLid x, int... want) {
        for (int what = 0; what < want.length; what++) {
            due("31 " + when + " " + what, x.twoSwaps(what), want[what]);
        }
    }

    private static void promise31() {
        SalaryLid x = small();
        due("31 not begun", x.twoSwaps(0), HIDDEN);
        x.begin(14);
        twoSwaps("at first", x, 3, 4, 1, 0, 12);
        due("31 what 5", x.twoSwaps(5), HIDDEN);
        due("31 what -1", x.twoSwaps(-1), HIDDEN);
        x.swap(3, 4);
        x.swap(1, 0);
        twoSwaps("there and back", x, 0, 1, 1, 0, 0);
        x.loan(14);
        due("31 no loan behind swaps", x.now(8), NONE);
        x.week();
        x.loan(14);
        due("31 loan", x.twoSwaps(4), HIDDEN);
        x.week();
        x.week();
        due("31 all played", x.twoSwaps(0), HIDDEN);
        // The one sold has risen: he can't be bought again for what he brought.
        SalaryLid y = Check.told("slots 1 0 0 0;lid 9;weeks 2;rise 5;fall 0;k a 9 5 1;k b 9 1 2;k c 8 1 3");
        y.begin(1);
        y.week();
        twoSwaps("the money that is left", y, 0, 1, 1, 2, 2);
        SalaryLid z = Check.told("slots 1 0 0 0;lid 9;weeks 2;rise 5;fall 0;k a 9 5 1;k b 9 1 2");
        z.begin(1);
        z.week();
        due("31 one can be", z.bestSwap(2), 1);
        due("31 no two can be", z.twoSwaps(4), HIDDEN);
        SalaryLid w = Check.told("slots 1 1 0 0;lid 10;weeks 1;k a 5 1;k b 7 9;b a 5 5;b c 3 4");
        w.begin(5);
        twoSwaps("the second pays the first", w, 2, 3, 0, 1, 7);
    }

    private static void promise32() {
        SalaryLid x = small();
        due("32 the one alone", x.apart(21, 14, 0, 0), 5 + 2);
        due("32 the other alone", x.apart(21, 14, 0, 1), 4 + 3);
        due("32 another week", x.apart(21, 14, 1, 0), 18);
        due("32 the same", x.apart(63, 63, 0, 0), 0);
        due("32 nobody", x.apart(0, 63, 2, 1), 22);
        due("32 bits", x.apart(64, 0, 0, 0), HIDDEN);
        due("32 bits", x.apart(0, 64, 0, 0), HIDDEN);
        due("32 below 0", x.apart(-1, 0, 0, 0), HIDDEN);
        due("32 below 0", x.apart(0, -1, 0, 0), HIDDEN);
        due("32 week 3", x.apart(1, 2, 3, 0), HIDDEN);
        due("32 week -1", x.apart(1, 2, -1, 0), HIDDEN);
        due("32 what 2", x.apart(1, 2, 0, 2), HIDDEN);
        due("32 what -1", x.apart(1, 2, 0, -1), HIDDEN);
        due("32 no league", new SalaryLid().apart(0, 0, 0, 0), HIDDEN);
    }

    private static void promise33() {
        SalaryLid x = Check.told(SMALL.replace("lid 40", "lid 29"));
        x.begin(26);
        due("33 not played", x.regret(0), HIDDEN);
        x.captain(3);
        due("33 score", x.week(), 4 + 3 + 2 + 3);
        due("33 under the worth", x.regret(0), 23 - 12);
        // Worth 28, by prices 10, 8, 13, 9, 10, 4: {0,4,5} for 24 has 28 points.
        due("33 worth", x.now(1), 28);
        x.week();
        due("33 by prices ahead of it", x.regret(1), 28 - (2 + 3 + 9 + 3));
        due("33 the week ahead stays", x.regret(0), 11);
        due("33 now is as it was", x.teams(20), 1);
        due("33 to come", x.regret(2), HIDDEN);
        due("33 week 3", x.regret(3), HIDDEN);
        due("33 week -1", x.regret(-1), HIDDEN);
        due("33 no league", new SalaryLid().regret(0), HIDDEN);
        SalaryLid y = Check.told(DEAR);
        y.begin(1);
        y.chip(0);
        y.week();
        due("33 below 0", y.regret(0), -1);
        y.week();
        due("33 no such team", y.regret(1), 0);
    }

    private static int drawn(long seed, int[] rising) {
        long x = seed * 6364136223846793005L + 1442695040888963407L;
        return rising[(int) Long.remainderUnsigned(x >>> 33, rising.length)];
    }

    private static void promise34() {
        SalaryLid x = Check.told(SMALL.replace("lid 40", "lid 26"));
        int[] rising = {38, 41, 42, 49, 50};
        int[] score = {57, 44, 41, 61, 59};
        long[] seeds = {0, 1, 2, 3, 4, 5, -1, Long.MIN_VALUE, Long.MAX_VALUE, 123456789012345L};
        for (int turn = 0; turn < 2; turn++) {
            for (long seed : seeds) {
                int set = drawn(seed, rising);
                due("34 team", x.rival(seed, 1), set);
                int k = 0;
                while (rising[k] != set) {
                    k++;
                }
                due("34 score", x.rival(seed, 0), score[k]);
            }
            x.begin(42);
            x.week();
        }
        due("34 what 2", x.rival(0, 2), HIDDEN);
        due("34 what -1", x.rival(0, -1), HIDDEN);
        due("34 no league", new SalaryLid().rival(0, 0), HIDDEN);
        due("34 there is none", Check.told(SMALL.replace("lid 40", "lid 21")).rival(0, 0), HIDDEN);
    }

    private static void promise35() {
        SalaryLid x = Check.told(SMALL.replace("lid 40", "lid 26"));
        due("35 not begun", x.ahead(0, 1), NONE);
        x.begin(41);
        due("35 n 0", x.ahead(0, 0), NONE);
        due("35 n 51", x.ahead(0, 51), NONE);
        due("35 n -1", x.ahead(0, -1), NONE);
        due("35 all", x.ahead(7, 50), 50);
        x.week();
        x.chip(0);
        x.week();
        due("35 together", x.now(9), 14 + 31);
        due("35 some", x.ahead(7, 50), better(x, 7, 50));
        due("35 going round", x.ahead(Long.MAX_VALUE - 3, 9), better(x, Long.MAX_VALUE - 3, 9));
        due("35 one", x.ahead(11, 1), better(x, 11, 1));
        x.week();
        SalaryLid y = Check.told("slots 1 0 0 0;weeks 1;k a 1 5");
        y.begin(1);
        y.week();
        due("35 as many is no more", y.ahead(0, 9), 0);
        due("35 when all is played", x.ahead(7, 50), better(x, 7, 50));
    }

    private static int better(SalaryLid x, long from, int n) {
        int found = 0;
        for (long seed = from, k = 0; k < n; k++, seed++) {
            found += x.rival(seed, 0) > x.now(9) ? 1 : 0;
        }
        return found;
    }

    private static void weight(SalaryLid x, int i, int above, int below) {
        due("36 above, of " + i, x.weight(i, 0), above);
        due("36 below, of " + i, x.weight(i, 1), below);
    }

    private static void promise36() {
        SalaryLid x = Check.told("slots 1 0 0 0;weeks 2;k a 8 3 3;k a 6 -2 -2;k a 9 4 -4;k a 5 5 5;k a 7 6 7;k a 99 99 99");
        weight(x, 0, 3, 4);
        weight(x, 1, -2, 3);
        weight(x, 2, 0, 1);
        weight(x, 3, 2, 1);
        weight(x, 4, 13, 7);
        weight(x, 5, 2, 1);
        due("36 what 2", x.weight(0, 2), HIDDEN);
        due("36 what -1", x.weight(0, -1), HIDDEN);
        due("36 player 6", x.weight(6, 0), HIDDEN);
        due("36 player -1", x.weight(-1, 0), HIDDEN);
        due("36 no league", new SalaryLid().weight(0, 0), HIDDEN);
        x.begin(1);
        x.week();
        weight(x, 1, -4, 5);
    }

    private static void promise37() {
        SalaryLid x = small();
        due("37 none", x.undo(), NONE);
        x.begin(14);
        x.swap(3, 4);
        x.captain(2);
        x.chip(0);
        x.week();
        x.swap(9, 9);
        due("37 the week", x.undo(), 4);
        now("the week undone", x, 9, 40, 0, 1, 1, 2, 22, 1, 0, 0, 0);
        due("37 its tale", x.tale(0, 0), HIDDEN);
        due("37 its prices", x.price(4), 12);
        due("37 the chip", x.undo(), 3);
        now("the chip undone", x, 9, 40, 0, 1, 1, 2, 22, 0, NONE, 0, 0);
        due("37 the captain", x.undo(), 2);
        due("37 who was", x.now(5), 1);
        due("37 the swap", x.undo(), 1);
        now("the swap undone", x, 11, 40, 0, 1, 0, 1, 14, 0, NONE, 0, 0);
        due("37 bought", Check.player(x, 3, 3), 9);
        x.week();
        x.week();
        x.swap(2, 4);
        x.swap(4, 2);
        due("37 bought again", Check.player(x, 2, 3), 14);
        x.undo();
        x.undo();
        due("37 as it was bought", Check.player(x, 2, 3), 12);
        due("37 what is left to undo", x.undo(), 2);
        due("37 one more", x.undo(), 1);
        due("37 begun", x.undo(), 0);
        due("37 not begun", x.now(0), HIDDEN);
        due("37 none", x.undo(), NONE);
        due("37 status stays", x.status(1), 1);
        x.begin(14);
        x.loan(21);
        x.undo();
        now("the loan undone", x, 11, 40, 0, 1, 0, 1, 14, 0, NONE, 0, 0);
        due("37 a plan behind it", x.plan(20), NONE);
        int plan = x.plan(0);
        x.chip(0);
        Check.due("37 another plan", x.plan(20) == 0 && x.plan(0) < plan, true);
        x.undo();
        due("37 the plan again", x.plan(0), plan);
        for (int k = 0; k < 12; k++) {
            x.captain(k % 2 == 0 ? 2 : 1);
        }
        for (int k = 11; k >= 0; k--) {
            due("37 the latest twelve", x.undo(), k);
            due("37 captain", x.now(5), k % 2 == 0 ? 1 : 2);
        }
        due("37 not more", x.undo(), NONE);
        due("37 still begun", x.now(6), 14);
    }

    private static void promise38and39() {
        SalaryLid x = new SalaryLid();
        due("38 no league", x.image(), NONE);
        due("39 no image", x.back(), NONE);
        x = small();
        due("39 no image yet", x.back(), NONE);
        due("38 not begun", x.image(), 0);
        x.begin(14);
        x.week();
        due("39 not begun", x.back(), 0);
        due("39 not begun", x.now(0), HIDDEN);
        due("39 no act", x.undo(), NONE);
        x.begin(14);
        x.swap(3, 4);
        x.chip(0);
        x.week();
        x.loan(26);
        int acts = x.count(1);
        due("38 weeks", x.image(), 1);
        due("38 acts stay", x.count(1), acts);
        x.week();
        x.swap(1, 0);
        x.week();
        x.swap(77, 77);
        due("39 weeks", x.back(), 1);
        now("back", x, 9, 39, 1, 1, 0, 1, 22, 5, 2, 22, 26);
        due("39 prices", x.price(4), 13);
        due("39 bought", Check.player(x, 4, 3), 11);
        tale(x, 0, 22, 22, 1, 0, 1, 40);
        due("39 tale to come", x.tale(1, 0), HIDDEN);
        due("39 no acts", x.count(1), 0);
        due("39 plan", x.plan(11), 26);
        due("39 status stays", x.status(0), 1);
        x.week();
        x.undo();
        x.week();
        due("39 it is still kept", x.back(), 1);
        due("39 as it was", x.now(10), 26);
        x.week();
        due("38 instead", x.image(), 2);
        x.week();
        due("39 the later one", x.back(), 2);
        SalaryLid y = begun(14);
        y.week();
        y.image();
        y.undo();
        y.captain(2);
        y.week();
        due("39 another tale", y.tale(0, 0), 23);
        y.back();
        tale(y, 0, 19, 14, 1, NONE, 0, 40);
        int plan = y.plan(0);
        y.week();
        Check.due("39 another plan", y.plan(0) < plan, true);
        y.back();
        due("39 the plan again", y.plan(0), plan);
    }

    private static void promise40() {
        SalaryLid x = new SalaryLid();
        x.begin(0);
        x.swap(0, 0);
        x.captain(0);
        x.chip(0);
        x.loan(0);
        x.week();
        x.undo();
        x.image();
        x.back();
        x.league();
        due("40 the acts alone", x.status(0), 6);
        due("40 what -1", x.status(-1), NONE);
        due("40 what 5", x.status(5), NONE);
        for (int what = 1; what < 5; what++) {
            due("40 none", x.status(what), 0);
        }
        Check.feed(x, SMALL);
        x.league();
        x.begin(-1);
        x.begin(0);
        due("40 no such set", x.status(1), 1);
        due("40 no team", x.status(3), 1);
        x.begin(14);
        x.undo();
        x.image();
        x.back();
        due("40 it stays", x.status(0) + x.status(1) + x.status(3), 8);
    }

    private static void promise41() {
        SalaryLid x = small();
        int[] want = {4, 2, 4, 0, 0, 1};
        for (int what = 0; what < 6; what++) {
            due("41 most " + what, x.most(what), want[what]);
        }
        due("41 what 6", x.most(6), NONE);
        due("41 what -1", x.most(-1), NONE);
        due("41 no league", new SalaryLid().most(0), NONE);
        SalaryLid y = Check.told("slots 1 0 0 0;weeks 2;rise 9;fall 2;k b 5 -3 -3;k c 5 3 -3;k c 4 2 -2;k b 5 -1 1");
        int[] lowest = {1, 0, 1, 1, 1, 0};
        for (int what = 0; what < 6; what++) {
            due("41 the lowest of several " + what, y.most(what), lowest[what]);
        }
        y.begin(1);
        y.week();
        due("41 price as now", y.most(1), 1);
        due("41 outdone from now on", y.most(3), 2);
        y.week();
        due("41 all played", y.most(3), NONE);
        due("41 all played", y.most(0), 1);
        SalaryLid z = Check.told("slots 1 0 0 0;weeks 2;rise 9;fall 0;k a 2 9 1;k a 3 5 9");
        due("41 weight", z.most(2), 0);
        z.begin(1);
        z.week();
        due("41 weight by the price as now", z.most(2), 1);
        SalaryLid w = Check.told("slots 1 0 0 0;weeks 1;k a 2 -6;k a 9 -9;k f 9 -99;k f 1 -1;k f 1 -2");
        due("41 weight below 0", w.most(2), 1);
        due("41 club", w.most(4), 5);
        SalaryLid v = Check.told("slots 1 0 0 0;weeks 3;k a 9 1 5 2;k a 9 1 1 4");
        due("41 the lowest week of several", v.most(5), 1);
        SalaryLid u = Check.told("slots 1 0 0 0;weeks 3;k a 9 8 5 9;k a 9 1 1 4");
        due("41 the last week", u.most(5), 2);
        due("41 one alone is the most", u.most(0), 0);
    }

    private static void promise42() {
        SalaryLid x = new SalaryLid();
        Check.feed(x, "slots 1 2");
        due("42 bytes", x.count(0), 9);
        due("42 acts", x.count(1), 0);
        due("42 what 2", x.count(2), NONE);
        due("42 what -1", x.count(-1), NONE);
        x.end(0);
        Check.feed(x, SMALL);
        due("42 bytes", x.count(0), SMALL.length());
        x.league();
        x.begin(14);
        x.captain(0);
        due("42 a call refused is no act", x.count(1), 1);
        for (int k = 1; k <= 20; k++) {
            x.captain(k % 2 == 0 ? 1 : 2);
            due("42 twelve at most", x.count(1), Math.min(12, 1 + k));
        }
    }
}
