import java.util.Random;

/** Random runs of calls, each answer compared with that of the model. */
final class RunsTest {
    private final Random dice;
    private final SalaryLid x = new SalaryLid();
    private final Model m = new Model();
    private final String run;
    private int calls = 0;

    private RunsTest(long seed) {
        dice = new Random(seed);
        run = "run " + seed;
    }

    public static void main(String[] args) {
        long first = args.length > 0 ? Long.parseLong(args[0]) : 1;
        long runs = args.length > 1 ? Long.parseLong(args[1]) : 260;
        for (long seed = first; seed < first + runs && Check.wrongSoFar() == 0; seed++) {
            new RunsTest(seed).go();
        }
        Check.finish();
    }

    private void go() {
        if (chance(10)) {
            askAll();
        }
        for (int leagues = 0; leagues < 2; leagues++) {
            tellLeague();
            askAll();
            for (int k = 0; k < 40 && Check.wrongSoFar() == 0; k++) {
                act();
                if (chance(60)) {
                    ask(dice.nextInt(30));
                } else if (chance(20)) {
                    askAll();
                }
            }
            askAll();
        }
    }

    private boolean chance(int percent) {
        return dice.nextInt(100) < percent;
    }

    private int from(int low, int high) {
        return low + dice.nextInt(high - low + 1);
    }

    private void due(String call, long got, long want) {
        calls++;
        Check.due(run + ", call " + calls + ": " + call + " of " + (m.r == null ? "" : m.r.text()), got, want);
    }

    // ---- a league ----

    private void tellLeague() {
        Model.Rules r = anyRules();
        while (r.text().length() > 400) {
            r = anyRules();
        }
        Check.feed(x, r.text());
        m.tell(r);
        due("league()", x.league(), r.n());
    }

    private Model.Rules anyRules() {
        Model.Rules r = new Model.Rules();
        // The model takes its time with as many teams as these have.
        boolean large = chance(3);
        do {
            for (int p = 0; p < 4; p++) {
                r.slots[p] = chance(50) ? from(0, chance(70) ? 2 : 3) : 0;
            }
        } while (r.size() < 1 || r.size() > (chance(70) && !large ? 3 : 6));
        int n = large ? from(13, 16) : from(r.size(), chance(75) ? 8 : 12);
        r.weeks = from(1, n > 9 && !large ? 3 : 6);
        r.club = from(1, chance(50) ? 6 : 3);
        r.cost = from(0, chance(50) ? 3 : 9);
        r.rise = from(1, 9);
        r.fall = from(0, chance(80) ? 4 : 12);
        r.place = new int[n];
        r.clubOf = new int[n];
        r.price = new int[n];
        r.pts = new int[n][r.weeks];
        boolean rich = chance(10);
        int most = chance(50) ? 4 : chance(80) ? 12 : 99;
        for (int i = 0; i < n; i++) {
            r.place[i] = placeOf(r, i);
            r.clubOf[i] = from(0, 5);
            r.price[i] = rich ? from(90, 99) : from(1, chance(80) ? 9 : 20);
            for (int w = 0; w < r.weeks; w++) {
                r.pts[i][w] = from(chance(20) ? -most : 0, most);
            }
        }
        r.lid = Math.min(599, Math.max(1, (rich ? 95 : 5) * r.size() + from(-4, 9)));
        return r;
    }

    /** The first ones fill the slots, so that there are teams more often than not. */
    private int placeOf(Model.Rules r, int i) {
        int k = i;
        for (int p = 0; p < 4; p++) {
            if (k < r.slots[p]) {
                return p;
            }
            k -= r.slots[p];
        }
        if (chance(90)) {
            for (int turn = 0; turn < 20; turn++) {
                int p = from(0, 3);
                if (r.slots[p] > 0) {
                    return p;
                }
            }
        }
        return from(0, 3);
    }

    // ---- acts ----

    private int anySet() {
        if (chance(80) && !m.everyTeam.isEmpty()) {
            return m.everyTeam.get(dice.nextInt(m.everyTeam.size()));
        }
        return chance(90) ? dice.nextInt(1 << m.r.n() + 1) : dice.nextInt();
    }

    private int anyPlayer() {
        return chance(95) ? from(0, m.r.n() - 1) : from(-2, m.r.n() + 2);
    }

    private int ownedPlayer() {
        int i = anyPlayer();
        for (int turn = 0; turn < 9 && chance(90) && !m.s.bought.containsKey(i); turn++) {
            i = anyPlayer();
        }
        return i;
    }

    private int otherOfPlace(int sold) {
        int i = anyPlayer();
        for (int turn = 0; turn < 30 && chance(95); turn++) {
            if (m.isPlayer(i) && m.isPlayer(sold) && m.r.place[i] == m.r.place[sold] && !m.s.bought.containsKey(i)) {
                return i;
            }
            i = anyPlayer();
        }
        return i;
    }

    private void act() {
        int kind = m.s.begun || chance(20) ? dice.nextInt(100) : 0;
        if (kind < 4) {
            int set = anySet();
            due("begin(" + set + ")", x.begin(set), m.begin(set));
        } else if (kind < 44) {
            int sold = ownedPlayer();
            int bought = otherOfPlace(sold);
            due("swap(" + sold + ", " + bought + ")", x.swap(sold, bought), m.swap(sold, bought));
        } else if (kind < 52) {
            int i = ownedPlayer();
            due("captain(" + i + ")", x.captain(i), m.captain(i));
        } else if (kind < 60) {
            int which = from(-1, 2);
            due("chip(" + which + ")", x.chip(which), m.chip(which));
        } else if (kind < 66) {
            int set = anySet();
            due("loan(" + set + ")", x.loan(set), m.loan(set));
        } else if (kind < 82) {
            due("week()", x.week(), m.week());
        } else if (kind < 95) {
            due("undo()", x.undo(), m.undo());
        } else if (kind < 98) {
            due("image()", x.image(), m.image());
        } else {
            due("back()", x.back(), m.back());
        }
    }

    // ---- questions ----

    private void askAll() {
        for (int kind = 0; kind < 30; kind++) {
            ask(kind);
        }
    }

    private void ask(int kind) {
        if (kind < 10) {
            askState(kind);
        } else if (kind < 20) {
            askTable(kind);
        } else {
            askAhead(kind);
        }
    }

    private void askState(int kind) {
        int n = m.r == null ? 2 : m.r.n();
        switch (kind) {
            case 0:
                for (int what = -1; what < 13; what++) {
                    due("rule(" + what + ")", x.rule(what), m.rule(what));
                    due("now(" + what + ")", x.now(what), m.now(what));
                }
                break;
            case 1:
                for (int i = -1; i <= n; i++) {
                    for (int what = -1; what < 7; what++) {
                        due("player(" + i + ", " + what + ")", Check.player(x, i, what), m.player(i, what));
                        due("points(" + i + ", " + what + ")", x.points(i, what), m.points(i, what));
                    }
                }
                break;
            case 2:
                for (int w = -1; w < 7; w++) {
                    for (int what = -1; what < 7; what++) {
                        due("tale(" + w + ", " + what + ")", x.tale(w, what), m.tale(w, what));
                    }
                    due("regret(" + w + ")", x.regret(w), m.regret(w));
                    due("worthThen(" + w + ")", x.worthThen(w), m.worthThen(w));
                }
                break;
            case 3:
                for (int what = -1; what < 6; what++) {
                    due("status(" + what + ")", x.status(what), m.status(what));
                }
                due("count(0)", x.count(0), 0);
                due("count(1)", x.count(1), m.acts.size());
                break;
            case 4:
                for (int what = -1; what < 7; what++) {
                    due("most(" + what + ")", x.most(what), m.most(what));
                }
                break;
            default:
                int i = from(-1, n);
                due("outdone(" + i + ")", x.outdone(i), m.outdone(i));
                due("weight(" + i + ", 0)", x.weight(i, 0), m.weight(i, 0));
                due("weight(" + i + ", 1)", x.weight(i, 1), m.weight(i, 1));
                int w = from(-1, 6);
                due("priceThen(" + i + ", " + w + ")", x.priceThen(i, w), m.priceThen(i, w));
        }
    }

    private void askTable(int kind) {
        int l = m.r == null ? 9 : from(-2, Math.min(620, m.r.lid + 20));
        int w = m.r == null ? 0 : chance(95) ? from(0, m.r.weeks - 1) : from(-1, 7);
        int what = from(-1, 3);
        int set = m.r == null ? 1 : anySet();
        int other = m.r == null ? 1 : anySet();
        switch (kind) {
            case 10:
                due("team(" + set + ")", x.team(set), m.team(set));
                due("price(" + set + ")", x.price(set), m.price(set));
                due("teams(" + l + ")", x.teams(l), m.teams(l));
                break;
            case 11:
            case 12:
                for (int k = 0; k < 3; k++) {
                    due("best(" + w + ", " + l + ", " + k + ")", x.best(w, l, k), m.best(w, l, k));
                }
                due("must(" + w + ", " + l + ")", x.must(w, l), m.must(w, l));
                break;
            case 13:
                int points = from(-9, 40);
                due("least(" + w + ", " + points + ")", x.least(w, points), m.least(w, points));
                break;
            case 14:
            case 15:
                due("steady(" + l + ", " + what + ")", x.steady(l, what), m.steady(l, what));
                due("steady(" + l + ", 1)", x.steady(l, 1), m.steady(l, 1));
                break;
            case 16:
                int i = from(-2, 6);
                due("stairs(" + w + ", " + i + ", " + what + ")", x.stairs(w, i, what), m.stairs(w, i, what));
                due("stairs(" + w + ", " + i + ", 0)", x.stairs(w, i, 0), m.stairs(w, i, 0));
                break;
            case 17:
                int one = from(0, 7);
                int two = from(-1, 7);
                due("held(" + l + ", " + one + ", " + two + ")", x.held(l, one, two), m.held(l, one, two));
                break;
            default:
                String call = "apart(" + set + ", " + other + ", " + w + ", " + what + ")";
                if (m.r != null) {
                    due(call, x.apart(set, other, w, what), m.apart(set, other, w, what));
                }
        }
    }

    private void askAhead(int kind) {
        long seed = dice.nextLong();
        switch (kind) {
            case 20:
            case 21:
                for (int what = -1; what < 4; what++) {
                    due("bestSwap(" + what + ")", x.bestSwap(what), m.bestSwap(what));
                }
                break;
            case 22:
                for (int what = -1; what < 6; what++) {
                    due("twoSwaps(" + what + ")", x.twoSwaps(what), m.twoSwaps(what));
                }
                break;
            case 23:
                for (int what = -1; what < 3; what++) {
                    due("rival(" + seed + ", " + what + ")", x.rival(seed, what), m.rival(seed, what));
                }
                break;
            case 24:
                int n = from(0, 51);
                due("ahead(" + seed + ", " + n + ")", x.ahead(seed, n), m.ahead(seed, n));
                break;
            default:
                askPlan();
        }
    }

    private void askPlan() {
        due("plan(0)", x.plan(0), m.plan(0));
        due("plan(1)", x.plan(1), m.plan(1));
        int w = from(-1, 6);
        due("plan(10 + " + w + ")", x.plan(10 + w), m.plan(10 + w));
        due("plan(20 + " + w + ")", x.plan(20 + w), m.plan(20 + w));
    }
}
