import java.util.Random;

/** Any arguments in any state: no call throws but player, and the answers that are due to wrong arguments come. */
final class ArgumentsTest {
    private static final int[] ODD = {Integer.MIN_VALUE, Integer.MIN_VALUE + 1, -1000000, -100, -2, -1, 0, 1, 2, 3, 5, 6, 10, 11, 12, 15,
        16, 17, 20, 25, 26, 31, 32, 33, 50, 51, 63, 64, 99, 400, 594, 595, 599, 65535, 65536, 1 << 30, Integer.MAX_VALUE - 1, Integer.MAX_VALUE};
    private static final String LARGE = "slots 3 3 0 0;lid 599;weeks 6"
        + ";k a9 1 2 3 4 5 6;k b8 6 5 4 3 2 1;k c7 0 0 0 0 0 9;k d6 9 9-9 9 9 9;k e5 1 1 1 1 1 1;k f4 2 2 2 2 2 2;k a3 3 3 3 3 3 3;k b2 4 4 4 4 4 4"
        + ";b a9 1 2 3 4 5 6;b b8 6 5 4 3 2 1;b c7 0 0 0 0 0 9;b d6 9 9-9 9 9 9;b e5 1 1 1 1 1 1;b f4 2 2 2 2 2 2;b a3 3 3 3 3 3 3;b b2 4 4 4 4 4 4";
    private static final String TINY = "slots 0 0 0 1;weeks 1;f f 1 -99";
    private static final String EMPTY = "slots 3 0 0 0;weeks 2;f f 1 -99 9;k a 99 99 99";
    private static final String PLANNED = "slots 1 1 0 0;weeks 6;rise 3;k a9 1 2 3 4 5 6;k b8 6 5 4 3 2 1;k c7 0 0 0 0 0 9;b d6 9 9-9 9 9 9;b e5 1 1 1 1 1 1";

    private ArgumentsTest() {
    }

    public static void main(String[] args) {
        String[] texts = {"", LARGE, TINY, EMPTY, PLANNED};
        Random dice = new Random(5);
        for (int turn = 0; turn < 150; turn++) {
            SalaryLid x = new SalaryLid();
            String text = texts[turn % texts.length];
            if (!text.isEmpty()) {
                Check.feed(x, text);
                Check.due("league", x.league() > 0, true);
            }
            for (int calls = 0; calls < 480; calls++) {
                int which = dice.nextInt(42);
                try {
                    call(x, which, dice);
                } catch (RuntimeException e) {
                    Check.due("call " + which + " of '" + text + "' threw " + e, 1, 0);
                }
            }
        }
        oddArguments();
        Check.finish();
    }

    private static int odd(Random dice) {
        return dice.nextInt(3) == 0 ? ODD[dice.nextInt(ODD.length)] : dice.nextInt(8);
    }

    private static void call(SalaryLid x, int which, Random dice) {
        int a = odd(dice);
        int b = odd(dice);
        int c = odd(dice);
        int d = odd(dice);
        int set = dice.nextInt(4) == 0 ? 1 << dice.nextInt(16) | 1 << dice.nextInt(16) : dice.nextBoolean() ? 1 + 2 + 4 + 256 + 512 + 1024 : 1 + 8;
        switch (which) {
            case 0: x.feed(a, b, c, d, dice.nextInt()); break;
            case 1: x.end(a); break;
            case 2: x.fault(); break;
            case 3: x.league(); break;
            case 4: x.rule(a); break;
            case 5: Check.player(x, a, b); break;
            case 6: x.points(a, b); break;
            case 7: x.now(a); break;
            case 8: x.begin(dice.nextBoolean() ? set : a); break;
            case 9: x.swap(a, b); break;
            case 10: x.captain(a); break;
            case 11: x.chip(a); break;
            case 12: x.loan(dice.nextBoolean() ? set : a); break;
            case 13: x.week(); break;
            case 14: x.tale(a, b); break;
            case 15: x.team(a); break;
            case 16: x.price(a); break;
            case 17: x.teams(a); break;
            case 18: x.best(a, b, c); break;
            case 19: x.must(a, b); break;
            case 20: x.least(a, b); break;
            case 21: x.outdone(a); break;
            case 22: x.bestSwap(a); break;
            case 23: x.plan(a); break;
            case 24: x.priceThen(a, b); break;
            case 25: x.worthThen(a); break;
            case 26: x.steady(a, b); break;
            case 27: x.stairs(a, b, c); break;
            case 28: x.held(a, b, c); break;
            case 29: x.twoSwaps(a); break;
            case 30: x.apart(a, b, c, d); break;
            case 31: x.regret(a); break;
            case 32: x.rival(dice.nextLong(), a); break;
            case 33: x.ahead(dice.nextLong(), a); break;
            case 34: x.weight(a, b); break;
            case 35: x.undo(); break;
            case 36: x.image(); break;
            case 37: x.back(); break;
            case 38: x.status(a); break;
            case 39: x.most(a); break;
            case 40: x.count(a); break;
            default: x.plan(10 + dice.nextInt(16));
        }
    }

    private static void oddArguments() {
        SalaryLid x = Check.told(PLANNED);
        x.begin(9);
        for (int odd : ODD) {
            boolean player = odd >= 0 && odd < 5;
            boolean week = odd >= 0 && odd < 6;
            Check.due("player " + odd, Check.player(x, odd, 0) != Check.THROWN, player);
            Check.due("points of " + odd, x.points(odd, 0) != SalaryLid.HIDDEN, player);
            Check.due("points in " + odd, x.points(0, odd) != SalaryLid.HIDDEN, week);
            Check.due("rule " + odd, x.rule(odd) != SalaryLid.HIDDEN, odd >= 0 && odd < 12);
            Check.due("now " + odd, x.now(odd) != SalaryLid.HIDDEN, odd >= 0 && odd < 11);
            Check.due("price " + odd, x.price(odd) != SalaryLid.NONE, odd >= 0 && odd < 32);
            Check.due("best of " + odd, x.best(odd, 99, 0) != SalaryLid.HIDDEN, week);
            Check.due("best under " + odd, x.best(0, odd, 0) != SalaryLid.HIDDEN, odd >= 12);
            Check.due("teams under " + odd, x.teams(odd) != SalaryLid.NONE, odd >= 0);
            Check.due("plan " + odd, x.plan(odd) != SalaryLid.HIDDEN, odd == 0 || odd == 1 || odd >= 10 && odd < 16 || odd >= 20 && odd < 26);
            Check.due("stair " + odd, x.stairs(0, odd, 0) != SalaryLid.HIDDEN, odd >= -1 && odd < x.stairs(0, -1, 0));
            Check.due("status " + odd, x.status(odd) != SalaryLid.NONE, odd >= 0 && odd < 5);
            Check.due("count " + odd, x.count(odd) != SalaryLid.NONE, odd == 0 || odd == 1);
            Check.due("most " + odd, x.most(odd) != SalaryLid.NONE, odd >= 0 && odd < 6);
            Check.due("ahead " + odd, x.ahead(3, odd) != SalaryLid.NONE, odd >= 1 && odd <= 50);
            Check.due("rival " + odd, x.rival(3, odd) != SalaryLid.HIDDEN, odd == 0 || odd == 1);
            Check.due("worth behind " + odd, x.worthThen(odd) != SalaryLid.HIDDEN, week);
            Check.due("price behind " + odd, x.priceThen(0, odd) != SalaryLid.NONE, week);
        }
    }
}
