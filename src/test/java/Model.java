import java.util.ArrayList;
import java.util.HashMap;
import java.util.List;
import java.util.Map;

/** A slow and plain second telling of the document, from a league on that is told by numbers. */
final class Model {
    static final int NONE = -1;
    static final int HIDDEN = -1000000;

    /** What a text tells. */
    static final class Rules {
        int[] slots = {0, 0, 0, 0};
        int lid = 99;
        int club = 6;
        int weeks = 3;
        int cost = 4;
        int rise = 9;
        int fall = 1;
        int[] place;
        int[] clubOf;
        int[] price;
        int[][] pts;

        int n() {
            return place.length;
        }

        int size() {
            return slots[0] + slots[1] + slots[2] + slots[3];
        }

        String text() {
            StringBuilder t = new StringBuilder();
            t.append("slots ").append(slots[0]).append(' ').append(slots[1]).append(' ').append(slots[2]).append(' ').append(slots[3]);
            t.append(";lid").append(lid).append(";club").append(club).append(";weeks").append(weeks);
            t.append(";cost").append(cost).append(";rise").append(rise).append(";fall").append(fall);
            for (int i = 0; i < n(); i++) {
                t.append(';').append("kbmf".charAt(place[i])).append(' ').append("abcdef".charAt(clubOf[i])).append(price[i]);
                for (int p : pts[i]) {
                    t.append(p < 0 ? "" : " ").append(p);
                }
            }
            return t.toString();
        }
    }

    /** What acts change. */
    static final class State {
        boolean begun;
        int money;
        int free;
        int swaps;
        int captain;
        int scores;
        int chip = NONE;
        int lent;
        List<Integer> chipsPlayed = new ArrayList<>();
        Map<Integer, Integer> bought = new HashMap<>();
        List<int[]> tales = new ArrayList<>();
        int[] price;

        State copy() {
            State s = new State();
            s.begun = begun;
            s.money = money;
            s.free = free;
            s.swaps = swaps;
            s.captain = captain;
            s.scores = scores;
            s.chip = chip;
            s.lent = lent;
            s.chipsPlayed = new ArrayList<>(chipsPlayed);
            s.bought = new HashMap<>(bought);
            s.tales = new ArrayList<>(tales);
            s.price = price.clone();
            return s;
        }

        int played() {
            return tales.size();
        }

        int owned() {
            int set = 0;
            for (int i : bought.keySet()) {
                set |= 1 << i;
            }
            return set;
        }
    }

    Rules r;
    State s;
    State kept;
    List<State> acts = new ArrayList<>();
    final int[] refused = new int[5];
    List<Integer> everyTeam = new ArrayList<>();

    void tell(Rules rules) {
        r = rules;
        s = new State();
        s.price = rules.price.clone();
        kept = null;
        acts.clear();
        everyTeam = new ArrayList<>();
        for (int set = 0; set < 1 << r.n(); set++) {
            if (whyNoTeam(set) == 0) {
                everyTeam.add(set);
            }
        }
    }

    static boolean in(int set, int i) {
        return (set & 1 << i) != 0;
    }

    boolean isPlayer(int i) {
        return r != null && i >= 0 && i < r.n();
    }

    boolean isWeek(int w) {
        return r != null && w >= 0 && w < r.weeks;
    }

    boolean badSet(int set) {
        return set < 0 || set >= 1 << r.n();
    }

    int whyNoTeam(int set) {
        int[] places = new int[4];
        int[] clubs = new int[6];
        for (int i = 0; i < r.n(); i++) {
            if (in(set, i)) {
                places[r.place[i]]++;
                clubs[r.clubOf[i]]++;
            }
        }
        for (int p = 0; p < 4; p++) {
            if (places[p] != r.slots[p]) {
                return 2;
            }
        }
        for (int c = 0; c < 6; c++) {
            if (clubs[c] > r.club) {
                return 3;
            }
        }
        return 0;
    }

    int sum(int set, int[] price) {
        int all = 0;
        for (int i = 0; i < r.n(); i++) {
            all += in(set, i) ? price[i] : 0;
        }
        return all;
    }

    int pointsOfSet(int set, int w) {
        int all = 0;
        for (int i = 0; i < r.n(); i++) {
            all += in(set, i) ? r.pts[i][w] : 0;
        }
        return all;
    }

    int bestCaptain(int set, int w) {
        int best = NONE;
        for (int i = r.n() - 1; i >= 0; i--) {
            if (in(set, i) && (best == NONE || r.pts[i][w] >= r.pts[best][w])) {
                best = i;
            }
        }
        return best;
    }

    int withCaptain(int set, int w) {
        return pointsOfSet(set, w) + r.pts[bestCaptain(set, w)][w];
    }

    int total(int i, int from) {
        int all = 0;
        for (int w = from; w < r.weeks; w++) {
            all += r.pts[i][w];
        }
        return all;
    }

    static int brings(int bought, int price) {
        return price <= bought ? price : bought + (int) Math.floor((price - bought) / 2.0);
    }

    int worth(State at, int[] price) {
        int all = at.money;
        for (Map.Entry<Integer, Integer> e : at.bought.entrySet()) {
            all += brings(e.getValue(), price[e.getKey()]);
        }
        return all;
    }

    int[] movedBy(int[] price, int w) {
        int[] next = price.clone();
        for (int i = 0; i < r.n(); i++) {
            if (r.pts[i][w] >= r.rise) {
                next[i]++;
            } else if (r.pts[i][w] <= r.fall) {
                next[i]--;
            }
            next[i] = Math.max(1, Math.min(99, next[i]));
        }
        return next;
    }

    int[] foretold(int w) {
        int[] price = r.price;
        for (int k = 0; k <= w; k++) {
            price = movedBy(price, k);
        }
        return price;
    }

    List<Integer> teamsUnder(int[] price, int l) {
        List<Integer> found = new ArrayList<>();
        for (int set : everyTeam) {
            if (sum(set, price) <= l) {
                found.add(set);
            }
        }
        return found;
    }

    int no(int why) {
        refused[why]++;
        return NONE;
    }

    void act() {
        acts.add(s.copy());
        if (acts.size() > 12) {
            acts.remove(0);
        }
    }

    boolean idle() {
        return r == null || !s.begun || s.played() == r.weeks;
    }

    int rule(int what) {
        if (r == null || what < 0 || what > 11) {
            return HIDDEN;
        }
        return new int[] {r.slots[0], r.slots[1], r.slots[2], r.slots[3], r.lid, r.club, r.weeks, r.cost, r.rise, r.fall, r.n(), r.size()}[what];
    }

    long player(int i, int what) {
        if (!isPlayer(i) || what < 0 || what > 5) {
            return Check.THROWN;
        }
        Integer bought = s.bought.get(i);
        return new int[] {r.place[i], r.clubOf[i], s.price[i], bought == null ? NONE : bought,
            bought == null ? NONE : brings(bought, s.price[i]), total(i, 0)}[what];
    }

    int points(int i, int w) {
        return isPlayer(i) && isWeek(w) ? r.pts[i][w] : HIDDEN;
    }

    int now(int what) {
        if (r == null || !s.begun || what < 0 || what > 10) {
            return HIDDEN;
        }
        int bits = 0;
        for (int c : s.chipsPlayed) {
            bits += 1 << c;
        }
        return new int[] {s.money, worth(s, s.price), s.played(), s.free, s.swaps, s.captain, s.owned(), bits, s.chip, s.scores, s.lent}[what];
    }

    int begin(int set) {
        if (r == null || s.begun) {
            return no(0);
        }
        if (badSet(set)) {
            return no(1);
        }
        if (whyNoTeam(set) != 0) {
            return no(3);
        }
        if (sum(set, s.price) > r.lid) {
            return no(2);
        }
        act();
        s.begun = true;
        s.money = r.lid - sum(set, s.price);
        s.free = 1;
        s.captain = NONE;
        for (int i = 0; i < r.n(); i++) {
            if (in(set, i)) {
                s.bought.put(i, s.price[i]);
                if (s.captain == NONE) {
                    s.captain = i;
                }
            }
        }
        return s.money;
    }

    int whyNoSwap(State at, int sold, int bought) {
        if (!at.bought.containsKey(sold) || !isPlayer(bought) || at.bought.containsKey(bought)) {
            return 1;
        }
        if (at.chip == 2) {
            return 4;
        }
        if (whyNoTeam(at.owned() - (1 << sold) + (1 << bought)) != 0) {
            return 3;
        }
        return at.money + brings(at.bought.get(sold), at.price[sold]) - at.price[bought] < 0 ? 2 : NONE;
    }

    void doSwap(State at, int sold, int bought) {
        at.money += brings(at.bought.get(sold), at.price[sold]);
        at.money -= at.price[bought];
        at.bought.remove(sold);
        at.bought.put(bought, at.price[bought]);
        at.swaps++;
        if (at.captain == sold) {
            at.captain = bought;
        }
    }

    int swap(int sold, int bought) {
        if (idle()) {
            return no(0);
        }
        int why = whyNoSwap(s, sold, bought);
        if (why != NONE) {
            return no(why);
        }
        act();
        doSwap(s, sold, bought);
        return s.money;
    }

    int captain(int i) {
        if (idle()) {
            return no(0);
        }
        if (!s.bought.containsKey(i) || s.captain == i) {
            return no(1);
        }
        act();
        int was = s.captain;
        s.captain = i;
        return was;
    }

    int chip(int which) {
        if (idle()) {
            return no(0);
        }
        if (which != 0 && which != 1) {
            return no(1);
        }
        if (s.chipsPlayed.contains(which) || s.chip != NONE) {
            return no(4);
        }
        act();
        s.chipsPlayed.add(which);
        s.chip = which;
        return 3 - s.chipsPlayed.size();
    }

    int loan(int set) {
        if (idle()) {
            return no(0);
        }
        if (badSet(set)) {
            return no(1);
        }
        if (s.chipsPlayed.contains(2) || s.chip != NONE || s.swaps > 0) {
            return no(4);
        }
        if (whyNoTeam(set) != 0) {
            return no(3);
        }
        if (sum(set, s.price) > worth(s, s.price)) {
            return no(2);
        }
        act();
        s.chipsPlayed.add(2);
        s.chip = 2;
        s.lent = set;
        return bestCaptain(set, s.played());
    }

    int week() {
        if (idle()) {
            no(0);
            return HIDDEN;
        }
        act();
        int w = s.played();
        int set = s.chip == 2 ? s.lent : s.owned();
        int head = s.chip == 2 ? bestCaptain(set, w) : s.captain;
        int score = pointsOfSet(set, w) + r.pts[head][w] * (s.chip == 0 ? 2 : 1);
        int left = s.free + 1;
        if (s.chip != 1 && s.chip != 2) {
            for (int k = 1; k <= s.swaps; k++) {
                if (k > s.free) {
                    score -= r.cost;
                } else {
                    left--;
                }
            }
        }
        s.tales.add(new int[] {score, set, head, s.chip, s.swaps, worth(s, s.price)});
        s.free = Math.min(2, left);
        s.price = movedBy(s.price, w);
        s.scores += score;
        s.swaps = 0;
        s.chip = NONE;
        s.lent = 0;
        return score;
    }

    int tale(int w, int what) {
        return r != null && w >= 0 && w < s.played() && what >= 0 && what < 6 ? s.tales.get(w)[what] : HIDDEN;
    }

    int team(int set) {
        return r == null ? NONE : badSet(set) ? 1 : whyNoTeam(set);
    }

    int price(int set) {
        return r == null || badSet(set) ? NONE : sum(set, s.price);
    }

    int teams(int l) {
        return r == null || l < 0 ? NONE : teamsUnder(s.price, l).size();
    }

    int bestSet(int w, List<Integer> among) {
        int best = NONE;
        for (int set : among) {
            if (best == NONE || withCaptain(set, w) > withCaptain(best, w)) {
                best = set;
            }
        }
        return best;
    }

    int best(int w, int l, int what) {
        if (!isWeek(w) || what < 0 || what > 2) {
            return HIDDEN;
        }
        int set = bestSet(w, teamsUnder(s.price, l));
        if (set == NONE) {
            return HIDDEN;
        }
        return what == 0 ? withCaptain(set, w) : what == 1 ? set : bestCaptain(set, w);
    }

    int must(int w, int l) {
        int most = best(w, l, 0);
        if (most == HIDDEN) {
            return HIDDEN;
        }
        int bits = 0;
        for (int i = 0; i < r.n(); i++) {
            boolean always = true;
            for (int set : teamsUnder(s.price, l)) {
                always &= withCaptain(set, w) != most || in(set, i);
            }
            bits |= always ? 1 << i : 0;
        }
        return bits;
    }

    int least(int w, int points) {
        if (!isWeek(w)) {
            return NONE;
        }
        for (int l = 0; l <= 600; l++) {
            int most = best(w, l, 0);
            if (most != HIDDEN && most >= points) {
                return l;
            }
        }
        return NONE;
    }

    int outdone(int i) {
        if (!isPlayer(i) || s.played() == r.weeks) {
            return NONE;
        }
        for (int j = 0; j < r.n(); j++) {
            if (j == i || r.place[j] != r.place[i]) {
                continue;
            }
            boolean noWorse = s.price[j] <= s.price[i];
            boolean alike = s.price[j] == s.price[i];
            for (int w = s.played(); w < r.weeks; w++) {
                noWorse &= r.pts[j][w] >= r.pts[i][w];
                alike &= r.pts[j][w] == r.pts[i][w];
            }
            if (noWorse && (!alike || j < i)) {
                return j;
            }
        }
        return NONE;
    }

    int gain(int sold, int bought) {
        return total(bought, s.played()) - total(sold, s.played());
    }

    int bestSwap(int what) {
        if (idle() || what < 0 || what > 2) {
            return HIDDEN;
        }
        int[] best = null;
        for (int a = r.n() - 1; a >= 0; a--) {
            for (int b = r.n() - 1; b >= 0; b--) {
                if (whyNoSwap(s, a, b) == NONE && (best == null || gain(a, b) >= best[2])) {
                    best = new int[] {a, b, gain(a, b)};
                }
            }
        }
        return best == null ? HIDDEN : best[what];
    }

    int twoSwaps(int what) {
        if (idle() || what < 0 || what > 4) {
            return HIDDEN;
        }
        int[] best = null;
        for (int a = r.n() - 1; a >= 0; a--) {
            for (int b = r.n() - 1; b >= 0; b--) {
                if (whyNoSwap(s, a, b) != NONE) {
                    continue;
                }
                State then = s.copy();
                doSwap(then, a, b);
                for (int c = r.n() - 1; c >= 0; c--) {
                    for (int d = r.n() - 1; d >= 0; d--) {
                        int both = whyNoSwap(then, c, d) == NONE ? gain(a, b) + gain(c, d) : HIDDEN;
                        if (both != HIDDEN && (best == null || both >= best[4])) {
                            best = new int[] {a, b, c, d, both};
                        }
                    }
                }
            }
        }
        return best == null ? HIDDEN : best[what];
    }

    // ---- the plan: its score first, then team and chip (from 0: none) of each week ----

    private Map<List<Integer>, int[]> seen;
    private List<Integer> choices;

    int plan(int what) {
        if (idle()) {
            return HIDDEN;
        }
        int w = what >= 20 ? what - 20 : what - 10;
        boolean such = what == 0 || what == 1 || what >= 10 && w >= s.played() && w < r.weeks;
        if (!such) {
            return HIDDEN;
        }
        choices = teamsUnder(s.price, worth(s, s.price));
        if (what == 1) {
            return choices.size();
        }
        if (choices.size() > 40) {
            return -2;
        }
        if (choices.isEmpty()) {
            return -3;
        }
        int[] row = planRows();
        int k = 1 + 2 * (w - s.played());
        return what == 0 ? row[0] : what >= 20 ? row[k + 1] - 1 : row[k];
    }

    /** The plan's score, then its row; null: there is none. */
    int[] planRows() {
        choices = teamsUnder(s.price, worth(s, s.price));
        if (choices.isEmpty() || choices.size() > 40) {
            return null;
        }
        seen = new HashMap<>();
        return planFrom(s.played(), s.owned(), s.free, new ArrayList<>(s.chipsPlayed));
    }

    private int[] planFrom(int w, int ahead, int free, List<Integer> played) {
        if (w == r.weeks) {
            return new int[] {0};
        }
        int bits = 0;
        for (int c : played) {
            bits |= 1 << c;
        }
        List<Integer> key = List.of(w, ahead, free, bits);
        int[] best = seen.get(key);
        if (best != null) {
            return best;
        }
        boolean first = w == s.played();
        for (int chip = NONE; chip <= 2; chip++) {
            if (first && s.chip != NONE ? chip != s.chip : played.contains(chip)) {
                continue;
            }
            if (chip == 2 && first && s.swaps > 0) {
                continue;
            }
            for (int set : choices) {
                if (first && s.chip == 2 && set != s.lent) {
                    continue;
                }
                int[] row = planRow(w, ahead, free, played, set, chip);
                if (best == null || isBefore(row, best)) {
                    best = row;
                }
            }
        }
        seen.put(key, best);
        return best;
    }

    private int[] planRow(int w, int ahead, int free, List<Integer> played, int set, int chip) {
        int score = withCaptain(set, w) + (chip == 0 ? r.pts[bestCaptain(set, w)][w] : 0);
        int swaps = Integer.bitCount(set & ~ahead) + (w == s.played() ? s.swaps : 0);
        int left = free;
        if (chip == NONE || chip == 0) {
            score -= r.cost * Math.max(0, swaps - free);
            left = Math.max(0, free - swaps);
        }
        List<Integer> then = new ArrayList<>(played);
        if (chip != NONE && !then.contains(chip)) {
            then.add(chip);
        }
        int[] rest = planFrom(w + 1, chip == 2 ? ahead : set, Math.min(2, left + 1), then);
        int[] row = new int[rest.length + 2];
        row[0] = score + rest[0];
        row[1] = set;
        row[2] = chip + 1;
        System.arraycopy(rest, 1, row, 3, rest.length - 1);
        return row;
    }

    private static boolean isBefore(int[] one, int[] other) {
        if (one[0] != other[0]) {
            return one[0] > other[0];
        }
        for (int k = 1; k < one.length; k++) {
            if (one[k] != other[k]) {
                return one[k] < other[k];
            }
        }
        return false;
    }

    int priceThen(int i, int w) {
        return isPlayer(i) && isWeek(w) ? foretold(w)[i] : NONE;
    }

    int worthThen(int w) {
        return r != null && s.begun && isWeek(w) && w >= s.played() ? worth(s, foretold(w)) : HIDDEN;
    }

    int steady(int l, int what) {
        if (r == null || s.played() == r.weeks || what < 0 || what > 1) {
            return HIDDEN;
        }
        int[] best = null;
        for (int set : teamsUnder(s.price, l)) {
            int worst = Integer.MAX_VALUE;
            for (int w = s.played(); w < r.weeks; w++) {
                worst = Math.min(worst, withCaptain(set, w));
            }
            if (best == null || worst > best[0]) {
                best = new int[] {worst, set};
            }
        }
        return best == null ? HIDDEN : best[what];
    }

    int stairs(int w, int i, int what) {
        if (!isWeek(w)) {
            return HIDDEN;
        }
        List<int[]> found = new ArrayList<>();
        for (int l = 0; l <= 600; l++) {
            int here = best(w, l, 0);
            int below = best(w, l - 1, 0);
            if (here != HIDDEN && (below == HIDDEN || here > below)) {
                found.add(new int[] {l, here});
            }
        }
        if (i == NONE) {
            return found.size();
        }
        return i >= 0 && i < found.size() && (what == 0 || what == 1) ? found.get(i)[what] : HIDDEN;
    }

    int held(int l, int i, int j) {
        if (!isPlayer(i) || !isPlayer(j) || l < 0) {
            return NONE;
        }
        int found = 0;
        for (int set : teamsUnder(s.price, l)) {
            found += in(set, i) && in(set, j) ? 1 : 0;
        }
        return found;
    }

    int apart(int one, int other, int w, int what) {
        if (!isWeek(w) || badSet(one) || badSet(other) || what < 0 || what > 1) {
            return HIDDEN;
        }
        int all = 0;
        for (int i = 0; i < r.n(); i++) {
            boolean here = in(what == 0 ? one : other, i);
            boolean there = in(what == 0 ? other : one, i);
            all += here && !there ? r.pts[i][w] : 0;
        }
        return all;
    }

    int regret(int w) {
        if (r == null || w < 0 || w >= s.played()) {
            return HIDDEN;
        }
        int[] price = w == 0 ? r.price : foretold(w - 1);
        int set = bestSet(w, teamsUnder(price, s.tales.get(w)[5]));
        return set == NONE ? 0 : withCaptain(set, w) - s.tales.get(w)[0];
    }

    int rival(long seed, int what) {
        if (r == null || what < 0 || what > 1) {
            return HIDDEN;
        }
        List<Integer> among = teamsUnder(r.price, r.lid);
        if (among.isEmpty()) {
            return HIDDEN;
        }
        long x = seed * 6364136223846793005L + 1442695040888963407L;
        int set = among.get((int) ((x >>> 33) % among.size()));
        int score = 0;
        for (int w = 0; w < r.weeks; w++) {
            score += withCaptain(set, w);
        }
        return what == 0 ? score : set;
    }

    int ahead(long from, int n) {
        if (r == null || !s.begun || n < 1 || n > 50 || rival(from, 0) == HIDDEN) {
            return NONE;
        }
        int found = 0;
        for (int k = 0; k < n; k++) {
            found += rival(from + k, 0) > s.scores ? 1 : 0;
        }
        return found;
    }

    int weight(int i, int what) {
        if (!isPlayer(i) || what < 0 || what > 1) {
            return HIDDEN;
        }
        int above = total(i, 0);
        int below = s.price[i];
        for (int d = 99; d > 1; d--) {
            if (above % d == 0 && below % d == 0) {
                above /= d;
                below /= d;
            }
        }
        return what == 0 ? above : below;
    }

    int undo() {
        if (acts.isEmpty()) {
            return NONE;
        }
        s = acts.remove(acts.size() - 1);
        return acts.size();
    }

    int image() {
        if (r == null) {
            return NONE;
        }
        kept = s.copy();
        return s.played();
    }

    int back() {
        if (kept == null) {
            return NONE;
        }
        s = kept.copy();
        acts.clear();
        return s.played();
    }

    int status(int what) {
        return what < 0 || what > 4 ? NONE : refused[what];
    }

    int most(int what) {
        if (r == null || what < 0 || what > 5 || what == 3 && s.played() == r.weeks) {
            return NONE;
        }
        double[] rank = new double[what == 4 ? 6 : what == 5 ? r.weeks : r.n()];
        int outdone = 0;
        for (int i = 0; i < r.n(); i++) {
            outdone += outdone(i) != NONE ? 1 : 0;
            if (what == 4) {
                rank[r.clubOf[i]]++;
            } else if (what == 5) {
                for (int w = 0; w < r.weeks; w++) {
                    rank[w] += r.pts[i][w];
                }
            } else {
                rank[i] = what == 0 ? total(i, 0) : what == 1 ? s.price[i] : (double) weight(i, 0) / weight(i, 1);
            }
        }
        int top = 0;
        for (int k = 0; k < rank.length; k++) {
            top = rank[k] > rank[top] ? k : top;
        }
        return what == 3 ? outdone : top;
    }
}
