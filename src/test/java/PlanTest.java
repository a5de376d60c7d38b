import java.util.ArrayList;
import java.util.List;
import java.util.Random;

/** Plans of leagues in which swaps are dear and chips matter, compared with the model's and with all rows tried. */
final class PlanTest {
    // Slots and players of each place: all have 2 to 40 teams.
    private static final int[][] SHAPES = {{2, 0, 0, 0, 5, 0, 0, 0}, {2, 0, 0, 0, 7, 0, 0, 0}, {3, 0, 0, 0, 6, 0, 0, 0},
        {0, 3, 0, 0, 1, 7, 0, 0}, {2, 2, 0, 0, 4, 4, 0, 0}, {0, 0, 1, 3, 0, 0, 2, 5}, {1, 1, 1, 1, 2, 2, 2, 3},
        {3, 3, 0, 0, 4, 5, 0, 0}, {2, 1, 1, 1, 4, 2, 1, 3}, {1, 0, 0, 0, 3, 0, 0, 0}};

    // How often each chip stood in the first week of a plan, and in a later one.
    private static final int[] FIRST = new int[4];
    private static final int[] LATER = new int[4];
    private static int dearOwned = 0;

    private PlanTest() {
    }

    public static void main(String[] args) {
        Random dice = new Random(11);
        for (int k = 0; k < 900 && Check.wrongSoFar() == 0; k++) {
            go(dice, "league " + k, SHAPES[dice.nextInt(SHAPES.length)], 1 + dice.nextInt(6), false);
        }
        for (int k = 0; k < 120 && Check.wrongSoFar() == 0; k++) {
            go(dice, "small league " + k, SHAPES[dice.nextBoolean() ? 0 : 9], 1 + dice.nextInt(3), true);
        }
        for (int chip = 0; chip < 4; chip++) {
            Check.due("plans with chip " + (chip - 1) + " first", FIRST[chip] > 50, true);
            Check.due("plans with chip " + (chip - 1) + " later", LATER[chip] > 50, true);
        }
        Check.due("plans of a team that is no choice", dearOwned > 50, true);
        Check.finish();
    }

    private static Model.Rules rules(Random dice, int[] shape, int weeks) {
        Model.Rules r = new Model.Rules();
        int n = 0;
        for (int p = 0; p < 4; p++) {
            r.slots[p] = shape[p];
            n += shape[4 + p];
        }
        r.weeks = weeks;
        r.cost = dice.nextInt(3) == 0 ? dice.nextInt(4) : 4 + dice.nextInt(6);
        r.rise = 1 + dice.nextInt(20);
        r.fall = dice.nextInt(4);
        r.place = new int[n];
        r.clubOf = new int[n];
        r.price = new int[n];
        r.pts = new int[n][weeks];
        int most = 3 + dice.nextInt(20);
        for (int i = 0, p = 0, left = shape[4]; i < n; i++, left--) {
            while (left == 0) {
                p++;
                left = shape[4 + p];
            }
            r.place[i] = p;
            r.clubOf[i] = dice.nextInt(6);
            r.price[i] = 2 + dice.nextInt(9);
            for (int w = 0; w < weeks; w++) {
                r.pts[i][w] = dice.nextInt(3) == 0 ? most : dice.nextInt(most) - dice.nextInt(4);
            }
        }
        r.lid = dice.nextInt(3) == 0 ? 99 : r.size() * 7;
        return r;
    }

    private static void go(Random dice, String run, int[] shape, int weeks, boolean tryAll) {
        Model m = new Model();
        SalaryLid x = new SalaryLid();
        m.tell(rules(dice, shape, weeks));
        Check.feed(x, m.r.text());
        x.league();
        for (int k = 0; k < 30 && !m.everyTeam.isEmpty() && !m.s.begun; k++) {
            int set = m.everyTeam.get(dice.nextInt(m.everyTeam.size()));
            Check.due(run + " begin", x.begin(set), m.begin(set));
        }
        for (int turn = 0; turn < 14 && m.s.begun && m.s.played() < weeks; turn++) {
            compare(run + " " + m.r.text() + " turn " + turn, x, m);
            if (tryAll) {
                compareWithAll(run + " " + m.r.text() + " turn " + turn, m);
            }
            act(dice, run, x, m);
        }
    }

    private static void act(Random dice, String run, SalaryLid x, Model m) {
        int n = m.r.n();
        int kind = dice.nextInt(10);
        if (kind < 3) {
            for (int k = 0; k < 40; k++) {
                int sold = dice.nextInt(n);
                int bought = dice.nextInt(n);
                if (m.whyNoSwap(m.s, sold, bought) == Model.NONE) {
                    Check.due(run + " swap", x.swap(sold, bought), m.swap(sold, bought));
                    return;
                }
            }
        } else if (kind == 3) {
            int which = dice.nextInt(2);
            Check.due(run + " chip", x.chip(which), m.chip(which));
        } else if (kind == 4) {
            int set = m.everyTeam.get(dice.nextInt(m.everyTeam.size()));
            Check.due(run + " loan", x.loan(set), m.loan(set));
        } else if (kind == 5) {
            Check.due(run + " undo", x.undo(), m.undo());
        } else if (kind == 6) {
            Check.due(run + " image or back", dice.nextBoolean() ? x.image() - m.image() : x.back() - m.back(), 0);
        } else {
            Check.due(run + " week", x.week(), m.week());
        }
    }

    private static void compare(String when, SalaryLid x, Model m) {
        int[] row = m.planRows();
        int first = m.s.played();
        if (row == null) {
            Check.due(when + ", plan(0)", x.plan(0), m.plan(0));
            return;
        }
        Check.due(when + ", plan(0)", x.plan(0), row[0]);
        for (int w = first; w < m.r.weeks; w++) {
            int k = 1 + 2 * (w - first);
            Check.due(when + ", plan(1" + w + ")", x.plan(10 + w), row[k]);
            Check.due(when + ", plan(2" + w + ")", x.plan(20 + w), row[k + 1] - 1);
            (w == first ? FIRST : LATER)[row[k + 1]]++;
        }
        dearOwned += m.sum(m.s.owned(), m.s.price) > m.worth(m.s, m.s.price) ? 1 : 0;
    }

    // ---- all rows tried, each scored by itself ----

    private static void compareWithAll(String when, Model m) {
        int[] want = m.planRows();
        if (want == null) {
            return;
        }
        List<Integer> choices = m.teamsUnder(m.s.price, m.worth(m.s, m.s.price));
        int weeks = m.r.weeks - m.s.played();
        long rows = 1;
        for (int w = 0; w < weeks; w++) {
            rows *= 4L * choices.size();
        }
        int[] best = null;
        for (long k = 0; k < rows; k++) {
            int[] row = new int[1 + 2 * weeks];
            long rest = k;
            for (int w = weeks - 1; w >= 0; w--) {
                row[2 + 2 * w] = (int) (rest % 4);
                rest /= 4;
                row[1 + 2 * w] = choices.get((int) (rest % choices.size()));
                rest /= choices.size();
            }
            Integer score = scoreOf(m, row);
            // Rows come from the least on, so that the first of several stays.
            if (score != null && (best == null || score > best[0])) {
                best = row;
                best[0] = score;
            }
        }
        for (int k = 0; k < want.length; k++) {
            Check.due(when + ", of all rows " + k, best == null ? Model.HIDDEN : best[k], want[k]);
        }
    }

    private static Integer scoreOf(Model m, int[] row) {
        int score = 0;
        int owned = m.s.owned();
        int free = m.s.free;
        List<Integer> played = new ArrayList<>(m.s.chipsPlayed);
        for (int w = m.s.played(); w < m.r.weeks; w++) {
            boolean first = w == m.s.played();
            int set = row[1 + 2 * (w - m.s.played())];
            int chip = row[2 + 2 * (w - m.s.played())] - 1;
            boolean given = first && m.s.chip != Model.NONE;
            if (given && (chip != m.s.chip || chip == 2 && set != m.s.lent)
                || !given && played.contains(chip) || chip == 2 && first && m.s.swaps > 0) {
                return null;
            }
            if (chip != Model.NONE && !given) {
                played.add(chip);
            }
            int captain = m.bestCaptain(set, w);
            score += m.pointsOfSet(set, w) + m.r.pts[captain][w] * (chip == 0 ? 2 : 1);
            int swaps = first ? m.s.swaps : 0;
            if (chip != 2) {
                for (int i = 0; i < m.r.n(); i++) {
                    swaps += Model.in(set, i) && !Model.in(owned, i) ? 1 : 0;
                }
                owned = set;
            }
            if (chip == 1 || chip == 2) {
                swaps = 0;
            }
            while (swaps > 0 && free > 0) {
                swaps--;
                free--;
            }
            score -= swaps * m.r.cost;
            free = Math.min(2, free + 1);
        }
        return score;
    }
}
