import java.util.Arrays;

/** Promises 1 to 6, and what the terms say of a text. */
final class TextBounds {
    private static final int NONE = SalaryLid.NONE;
    private static final int HIDDEN = SalaryLid.HIDDEN;

    private static final String HEAD = "slots 1 0 0 0";
    private static final String MAN = ";k a 1 1 1 1";
    private static final String[] RULES = {"lid", "club", "weeks", "cost", "rise", "fall"};

    private TextBounds() {
    }

    static void run() {
        constants();
        newObject();
        tapeHolds400();
        tapeHolds400OfAnyByte();
        bytesOfZero();
        firstBytes();
        lines();
        slotsComeFirst();
        slotsEach();
        slotsTogether();
        rulesOnce();
        ruleBounds();
        weeksBounds();
        howManyPlayers();
        places();
        clubs();
        playerPrices();
        pointsOfEachWeek();
        pointsBounds();
        words();
        digits();
        blanks();
        faultIsTheFirst();
        faultOfWords();
        faultOfNumbers();
        faultOfPlayers();
        faultOfBytes();
        faultAtTheEnd();
        faultLeavesAll();
        leagueEmptiesAll();
        leagueIsLikeTheFirst();
        leagueRefused();
        rules();
        manyCalls();
    }

    // ---- texts: where the fault is due stands ^, which is no part of the text ----

    private static void faultAt(String marked) {
        int at = marked.indexOf('^');
        String text = marked.substring(0, at) + marked.substring(at + 1);
        Doc.due("the fault of '" + text + "'", Check.faultOf(text), at);
    }

    private static void fine(String text) {
        Doc.due("the fault of '" + text + "'", Check.faultOf(text), NONE);
    }

    private static String man(int weeks) {
        return ";k a 1" + " 1".repeat(weeks);
    }

    private static String men(int n) {
        return ";k a1 1".repeat(n);
    }

    // ---- promise 1 ----

    private static void constants() {
        Doc.says(1, "The constants: `NONE = -1`: None; refused.");
        Doc.due("NONE", SalaryLid.NONE, -1);
        Doc.says(1, "`HIDDEN = -1000000`: Not told.");
        Doc.due("HIDDEN", SalaryLid.HIDDEN, -1000000);
    }

    private static void newObject() {
        Doc.says(1, "No LEAGUE.");
        SalaryLid x = new SalaryLid();
        int[] hidden = {x.rule(0), x.points(0, 0), x.now(0), x.week(), x.tale(0, 0), x.best(0, 99, 0), x.must(0, 99), x.bestSwap(0),
            x.plan(0), x.plan(1), x.worthThen(0), x.steady(99, 0), x.stairs(0, NONE, 0), x.stairs(0, 0, 0), x.twoSwaps(0),
            x.apart(0, 0, 0, 0), x.regret(0), x.rival(0, 0), x.weight(0, 0)};
        for (int k = 0; k < hidden.length; k++) {
            Doc.due("not told, the " + k + "th", hidden[k], HIDDEN);
        }
        int[] none = {x.league(), x.begin(1), x.swap(0, 1), x.captain(0), x.chip(0), x.loan(1), x.team(0), x.price(0), x.teams(0),
            x.least(0, 0), x.outdone(0), x.priceThen(0, 0), x.held(0, 0, 0), x.ahead(0, 1), x.undo(), x.image(), x.back(), x.most(0)};
        for (int k = 0; k < none.length; k++) {
            Doc.due("none, the " + k + "th", none[k], NONE);
        }
        Doc.due("player", Check.player(x, 0, 0), Check.THROWN);
        Doc.due("bytes", x.count(0), 0);
        Doc.due("acts", x.count(1), 0);
        SalaryLid y = new SalaryLid();
        for (int what = 0; what < 5; what++) {
            Doc.due("status " + what, y.status(what), 0);
        }
    }

    // ---- promises 2 and 3 ----

    private static int[] bytes(int n) {
        int[] five = new int[5];
        for (int k = 0; k < n; k++) {
            five[k / 4] |= 'x' << 8 * (k % 4);
        }
        return five;
    }

    private static int feed(SalaryLid x, int n) {
        int[] five = bytes(n);
        return x.feed(five[0], five[1], five[2], five[3], five[4]);
    }

    private static void tapeHolds400() {
        Doc.says(2, "NONE: more than 400 (without these).");
        for (int more = 0; more <= 20; more++) {
            for (int before = 379; before <= 400; before++) {
                SalaryLid x = new SalaryLid();
                for (int k = 0; k < 20; k++) {
                    feed(x, 20);
                }
                x.end(before);
                int want = before + more > 400 ? NONE : before + more;
                Doc.due(more + " more to " + before, feed(x, more), want);
                Doc.due("behind " + more + " more to " + before, x.count(0), want == NONE ? before : want);
            }
        }
        SalaryLid y = new SalaryLid();
        Check.feed(y, HEAD + ";weeks 1" + men(16) + " ".repeat(400 - 21 - 16 * 7 - 1));
        Doc.due("399 bytes", y.count(0), 399);
        Doc.due("two more", y.feed(0, 0, 0, 0, 0x2020), NONE);
        Doc.due("none of the two came", y.count(0), 399);
        Doc.due("one more", y.feed(0, 0, 0, 0, 0x20), 400);
        Doc.due("all 400 are read", y.fault(), NONE);
        y.end(399);
        y.feed(0, 0, 0, 0, '?');
        Doc.due("the 400th is read", y.fault(), 399);
    }

    private static void tapeHolds400OfAnyByte() {
        SalaryLid x = new SalaryLid();
        for (int k = 0; k < 20; k++) {
            feed(x, 20);
        }
        for (int one : new int[] {1, 2, 127, 128, 255}) {
            for (int at = 0; at < 20; at++) {
                int[] five = new int[5];
                five[at / 4] = one << 8 * (at % 4);
                Doc.due("byte " + one + " at " + at + " to 400", x.feed(five[0], five[1], five[2], five[3], five[4]), NONE);
                x.end(399);
                Doc.due("byte " + one + " at " + at + " to 399", x.feed(five[0], five[1], five[2], five[3], five[4]), 400);
            }
        }
    }

    private static void bytesOfZero() {
        Doc.says(2, "Twenty bytes more come to the TAPE (of each number the highest first; bytes of 0 are left out): how many it has.");
        SalaryLid x = new SalaryLid();
        Doc.due("all of 0", x.feed(0, 0, 0, 0, 0), 0);
        for (int at = 0; at < 20; at++) {
            int[] five = new int[5];
            five[at / 4] = 255 << 8 * (at % 4);
            Doc.due("one alone at " + at, x.feed(five[0], five[1], five[2], five[3], five[4]), at + 1);
        }
        Doc.due("twenty, none of 0", x.feed(-1, -1, -1, -1, -1), 40);
        Doc.due("bytes of 1, next to 0", x.feed(0x01010101, 0x01000001, 0x00010100, 0, 1), 49);
        SalaryLid y = new SalaryLid();
        y.feed('s' << 24 | 'l' << 16 | 'o' << 8 | 't', 's' << 24 | ' ' << 16 | '1', 0, ' ' << 16 | '0' << 8, ' ' << 24 | '0');
        y.feed(0, ' ', 0, '0', 0);
        Doc.due("in this order a text", y.fault(), 13);
        y.feed(';' << 16 | 'k' << 8, ' ' << 24 | 'a', '1' << 8, ' ' << 24 | '1' << 16 | ' ' << 8 | '1', ' ' << 8 | '1');
        Doc.due("a league", y.league(), 1);
        SalaryLid z = new SalaryLid();
        z.feed('s' | 'l' << 8 | 'o' << 16 | 't' << 24, 's', 0, 0, 0);
        Doc.due("the lowest first is another text", z.fault(), 0);
    }

    private static void firstBytes() {
        Doc.says(3, "The TAPE has its first n bytes alone.");
        SalaryLid x = new SalaryLid();
        Check.feed(x, HEAD + MAN + "?");
        Doc.due("all", x.end(26), true);
        Doc.due("the last byte is a fault", x.fault(), 25);
        Doc.due("one fewer", x.end(25), true);
        Doc.due("it is gone", x.fault(), NONE);
        Doc.due("how many", x.count(0), 25);
        Doc.due("one fewer", x.end(24), true);
        Doc.due("it ends too early", x.fault(), 24);
        x.feed(0, 0, 0, 0, '7');
        Doc.due("more come behind these", x.league(), 1);
        Doc.due("the one that came", x.points(0, 2), 7);
        Doc.says(3, "False: n.");
        SalaryLid y = new SalaryLid();
        Doc.due("0 of an empty tape", y.end(0), true);
        Doc.due("1 of an empty tape", y.end(1), false);
        Doc.due("-1 of an empty tape", y.end(-1), false);
        feed(y, 7);
        Doc.bounds("n", n -> y.end(7) && y.end(n) && feed(y, 7 - n) == 7 ? 1 : 0, 0, 7, 0);
        Doc.due("refused, it stays", y.count(0), 7);
        y.end(5);
        Doc.due("what is gone stays gone", y.end(6), false);
        Doc.due("it stays", y.count(0), 5);
    }

    // ---- the terms: what a text is ----

    private static void lines() {
        Doc.says(4, "A LEAGUE is a TEXT: LINES with ; between:");
        fine(HEAD + MAN);
        fine(HEAD + MAN + MAN);
        faultAt(HEAD + " ^k a 1 1 1 1");
        faultAt(HEAD + ";^;k a 1 1 1 1");
        faultAt(HEAD + MAN + " ^k a 1 1 1 1");
        faultAt(HEAD + MAN + ";^" + MAN);
        faultAt(HEAD + ";lid 5 ^k a 1 1 1 1");
        faultAt(HEAD + MAN + ";^");
        faultAt(HEAD + MAN + "; ^");
        faultAt("^;" + HEAD + MAN);
        faultAt(HEAD + "^:k a 1 1 1 1");
        faultAt(HEAD + "^<k a 1 1 1 1");
    }

    private static void slotsComeFirst() {
        Doc.says(4, "first slots D D D D");
        fine(HEAD + MAN);
        faultAt("^k a 1 1 1 1");
        faultAt("^lid 5;" + HEAD + MAN);
        faultAt("^1 0 0 0" + MAN);
        faultAt("slots^;k a 1 1 1 1");
        faultAt("slots 1 0 0^;k a 1 1 1 1");
        faultAt("slots 1 0 0 ^k a 1 1 1 1");
        faultAt(HEAD + " ^0" + MAN);
        faultAt("slots ^-1 0 0 0" + MAN);
    }

    private static void slotsEach() {
        Doc.says(6, "(how many of each PLACE: keeper, back, middle, front; 0 to 3 each, 1 to 6 together: the SIZE)");
        for (int place = 0; place < 4; place++) {
            for (int slots = 0; slots <= 9; slots++) {
                StringBuilder text = new StringBuilder("slots");
                for (int k = 0; k < 4; k++) {
                    text.append(k == place && slots > 3 ? " ^" : " ").append(k == place ? slots : k == (place + 1) % 4 ? 1 : 0);
                }
                if (slots > 3) {
                    faultAt(text + MAN);
                } else {
                    SalaryLid x = Check.told(text + MAN);
                    Doc.due("slots of place " + place, x.rule(place), slots);
                    Doc.due("size", x.rule(11), slots + 1);
                }
            }
        }
    }

    private static void slotsTogether() {
        for (int code = 0; code < 256; code++) {
            int[] d = {code >> 6, code >> 4 & 3, code >> 2 & 3, code & 3};
            int size = d[0] + d[1] + d[2] + d[3];
            String three = "slots " + d[0] + " " + d[1] + " " + d[2] + " ";
            if (size < 1 || size > 6) {
                faultAt(three + "^" + d[3] + MAN);
            } else {
                Doc.due("size of " + three + d[3], Check.told(three + d[3] + MAN).rule(11), size);
            }
        }
    }

    private static void rulesOnce() {
        Doc.says(4, "then any of these, each once at most:");
        fine(HEAD + MAN);
        for (int first = 0; first < 6; first++) {
            fine(HEAD + ";" + RULES[first] + " 3" + MAN);
            faultAt(HEAD + ";" + RULES[first] + " 3;^" + RULES[first] + " 3" + MAN);
            StringBuilder all = new StringBuilder(HEAD);
            for (int k = 0; k < 6; k++) {
                all.append(';').append(RULES[(first + k) % 6]).append(" 3");
            }
            fine(all + MAN);
            faultAt(all + ";^" + RULES[first] + " 3" + MAN);
        }
    }

    /** A rule's number goes from low to high, and is another one without. */
    private static void ruleOf(int rule, int low, int high, int without) {
        for (int n : new int[] {low, low + 1, high - 1, high}) {
            SalaryLid x = Check.told(HEAD + ";" + RULES[rule] + " " + n + man(rule == 2 ? n : 3));
            Doc.due(RULES[rule] + " " + n, x.rule(4 + rule), n);
        }
        if (low > 0) {
            faultAt(HEAD + ";" + RULES[rule] + " ^" + (low - 1) + MAN);
        }
        faultAt(HEAD + ";" + RULES[rule] + " ^" + (high + 1) + MAN);
        faultAt(HEAD + ";" + RULES[rule] + " ^-" + low + MAN);
        Doc.due(RULES[rule] + " without", Check.told(HEAD + MAN).rule(4 + rule), without);
    }

    private static void ruleBounds() {
        Doc.says(6, "lid N (1 to 599; 99 without)");
        ruleOf(0, 1, 599, 99);
        Doc.says(6, "club D (the most of one CLUB, 1 to 6; 6 without)");
        ruleOf(1, 1, 6, 6);
        Doc.says(6, "weeks D (1 to 6; 3 without)");
        ruleOf(2, 1, 6, 3);
        Doc.says(6, "cost D (0 to 9; 4 without)");
        ruleOf(3, 0, 9, 4);
        Doc.says(6, "rise N (1 to 99; 9 without)");
        ruleOf(4, 1, 99, 9);
        Doc.says(6, "fall N (0 to 99; 1 without)");
        ruleOf(5, 0, 99, 1);
    }

    private static void weeksBounds() {
        Doc.says(8, "weeks D (1 to 6; 3 without)");
        for (int weeks = 1; weeks <= 6; weeks++) {
            SalaryLid x = Check.told(HEAD + ";weeks " + weeks + man(weeks));
            Doc.due("the last of " + weeks, x.points(0, weeks - 1), 1);
            Doc.due("one behind " + weeks, x.points(0, weeks), HIDDEN);
        }
        SalaryLid y = Check.told(HEAD + MAN);
        Doc.due("without, week 2", y.points(0, 2), 1);
        Doc.due("without, week 3", y.points(0, 3), HIDDEN);
    }

    private static void howManyPlayers() {
        Doc.says(5, "then PLAYERS, 1 to 16:");
        faultAt(HEAD + ";weeks 1^");
        for (int n = 1; n <= 16; n++) {
            SalaryLid x = new SalaryLid();
            Check.feed(x, HEAD + ";weeks 1" + men(n));
            Doc.due(n + " players", x.league(), n);
            Doc.due("as a rule", x.rule(10), n);
            Doc.due("the last one", x.points(n - 1, 0), 1);
            Doc.due("one behind", x.points(n, 0), HIDDEN);
        }
        faultAt(HEAD + ";weeks 1" + men(16) + ";^k a1 1");
    }

    private static void places() {
        Doc.says(7, "k, b, m or f (the PLACE)");
        for (char c = 'a'; c <= 'z'; c++) {
            int place = "kbmf".indexOf(c);
            if (place < 0) {
                faultAt(HEAD + ";^" + c + " a 1 1 1 1");
            } else {
                Doc.due("place " + c, Check.player(Check.told(HEAD + ";" + c + " a 1 1 1 1"), 0, 0), place);
            }
        }
        faultAt(HEAD + ";^K a 1 1 1 1");
        faultAt(HEAD + ";^kk a 1 1 1 1");
        faultAt(HEAD + ";^a 1 1 1 1");
    }

    private static void clubs() {
        Doc.says(7, "a CLUB (a letter a to f)");
        for (char c = 'a'; c <= 'z'; c++) {
            if (c > 'f') {
                faultAt(HEAD + ";k ^" + c + " 1 1 1 1");
            } else {
                Doc.due("club " + c, Check.player(Check.told(HEAD + ";k " + c + " 1 1 1 1"), 0, 1), c - 'a');
            }
        }
        faultAt(HEAD + ";k ^` 1 1 1 1");
        faultAt(HEAD + ";k ^A 1 1 1 1");
        faultAt(HEAD + ";k ^ab 1 1 1 1");
        faultAt(HEAD + ";k ^1 1 1 1");
        faultAt(HEAD + ";k^");
    }

    private static void playerPrices() {
        Doc.says(7, "a PRICE (1 to 99)");
        for (int price : new int[] {1, 2, 98, 99}) {
            Doc.due("price " + price, Check.player(Check.told(HEAD + ";k a " + price + " 1 1 1"), 0, 2), price);
        }
        faultAt(HEAD + ";k a ^0 1 1 1");
        faultAt(HEAD + ";k a ^100 1 1 1");
        faultAt(HEAD + ";k a ^999 1 1 1");
        faultAt(HEAD + ";k a ^-1 1 1 1");
        faultAt(HEAD + ";k a ^b 1 1 1");
    }

    private static void pointsOfEachWeek() {
        Doc.says(8, "POINTS of each WEEK (as many as there are;");
        for (int weeks = 1; weeks <= 6; weeks++) {
            String head = HEAD + ";weeks " + weeks;
            fine(head + man(weeks));
            fine(head + man(weeks) + man(weeks));
            faultAt(head + man(weeks - 1) + "^");
            faultAt(head + man(weeks - 1) + "^" + man(weeks));
            faultAt(head + man(weeks) + " ^1");
            faultAt(head + man(weeks) + " ^-1");
            faultAt(head + man(weeks) + man(weeks) + " ^1");
        }
        fine(HEAD + man(3));
        faultAt(HEAD + man(2) + "^");
        faultAt(HEAD + man(3) + " ^1");
    }

    private static void pointsBounds() {
        Doc.says(8, "- may stand ahead of one; 0 to 99 without it).");
        for (int points : new int[] {0, 1, 98, 99}) {
            SalaryLid x = Check.told(HEAD + ";weeks 2;k a 1 " + points + " -" + points);
            Doc.due("points " + points, x.points(0, 0), points);
            Doc.due("points -" + points, x.points(0, 1), -points);
        }
        faultAt(HEAD + ";weeks 1;k a 1 ^100");
        faultAt(HEAD + ";weeks 1;k a 1 -^100");
        faultAt(HEAD + ";weeks 1;k a 1 -^999");
        faultAt(HEAD + ";weeks 1;k a 1 -^-1");
        faultAt(HEAD + ";weeks 1;k a 1 -^");
        faultAt(HEAD + ";weeks 1;k a 1 -^;k a 1 1");
        faultAt(HEAD + ";weeks 1;k a 1 ^+1");
        faultAt(HEAD + ";weeks 1;k a 1 ^,1");
        faultAt(HEAD + ";weeks 1;k a 1 ^.1");
        SalaryLid y = Check.told(HEAD + ";weeks 3;k a 1-2 - 3 4");
        Doc.due("with no blank", y.points(0, 0), -2);
        Doc.due("with a blank behind it", y.points(0, 1), -3);
        Doc.due("one without it behind these", y.points(0, 2), 4);
    }

    private static void words() {
        Doc.says(4, "Words (small letters) go as long as they can, so do digits");
        fine("slots1 0 0 0;lid5;club1;cost0;rise1;fall0;weeks2;k a1 1 1");
        faultAt("^slotsk 1 0 0 0" + MAN);
        faultAt("^slotsz1 0 0 0" + MAN);
        faultAt("^slot s 1 0 0 0" + MAN);
        faultAt(HEAD + ";^lidlid 5" + MAN);
        faultAt(HEAD + ";^lida 5" + MAN);
        faultAt(HEAD + ";^ka 1 1 1 1");
        faultAt(HEAD + ";k ^aa 1 1 1 1");
        faultAt("slots ^1000" + MAN);
        faultAt(HEAD + ";k a ^1111");
        faultAt("^Slots 1 0 0 0" + MAN);
        faultAt("slot^S 1 0 0 0" + MAN, 0);
        for (char c : new char[] {'`', '{', '/', ':', '@', '[', 'A', 'Z'}) {
            faultAt("slots^" + c + "1 0 0 0" + MAN);
            faultAt("slots 1^" + c + "0 0 0" + MAN);
        }
    }

    /** Here the mark tells what is wrong, the fault stands elsewhere. */
    private static void faultAt(String marked, int want) {
        String text = marked.replace("^", "");
        Doc.due("the fault of '" + text + "'", Check.faultOf(text), want);
    }

    private static void digits() {
        Doc.says(4, "(a NUMBER; 1 to 3 digits, D: 1 digit)");
        for (String rule : new String[] {"lid", "rise", "fall"}) {
            fine(HEAD + ";" + rule + " 1" + MAN);
            fine(HEAD + ";" + rule + " 01" + MAN);
            fine(HEAD + ";" + rule + " 001" + MAN);
            faultAt(HEAD + ";" + rule + " ^0001" + MAN);
            faultAt(HEAD + ";" + rule + " ^0010" + MAN);
            faultAt(HEAD + ";" + rule + " ^0990" + MAN);
        }
        for (String rule : new String[] {"club", "weeks", "cost"}) {
            fine(HEAD + ";" + rule + " 3" + MAN);
            faultAt(HEAD + ";" + rule + " ^03" + MAN);
            faultAt(HEAD + ";" + rule + " ^003" + MAN);
        }
        for (int place = 0; place < 4; place++) {
            String head = "slots" + " 1".repeat(place);
            fine(head + " 1" + " 0".repeat(3 - place) + MAN);
            faultAt(head + " ^01" + " 0".repeat(3 - place) + MAN);
            faultAt(head + " ^001" + " 0".repeat(3 - place) + MAN);
        }
        SalaryLid x = Check.told(HEAD + ";lid 012;weeks 2;k a 099 007 -008");
        Doc.due("lid 012", x.rule(4), 12);
        Doc.due("price 099", Check.player(x, 0, 2), 99);
        Doc.due("points 007", x.points(0, 0), 7);
        Doc.due("points -008", x.points(0, 1), -8);
        faultAt(HEAD + ";k a ^0099 1 1 1");
        faultAt(HEAD + ";k a 99 ^0001 1 1");
        faultAt(HEAD + ";k a 99 -^0000 1 1");
    }

    private static void blanks() {
        Doc.says(4, "blanks (32) may stand ahead of and behind all.");
        String[] parts = {"slots", "1", "0", "0", "0", ";", "weeks", "2", ";", "k", "a", "1", "-", "1", "1"};
        fine(String.join(" ", parts));
        fine("  " + String.join("  ", parts) + "  ");
        for (int k = 0; k <= parts.length; k++) {
            String before = String.join(" ", Arrays.copyOfRange(parts, 0, k));
            String behind = String.join(" ", Arrays.copyOfRange(parts, k, parts.length));
            fine(before + "     " + behind);
            for (char c : new char[] {1, 9, 10, 13, 31, 33, 160}) {
                faultAt(before + (k == 0 ? "" : " ") + "^" + c + " " + behind);
            }
        }
        faultAt("^sl ots 1 0 0 0" + MAN);
        faultAt(HEAD + ";^l id 5" + MAN);
        faultAt(HEAD + ";lid 5 ^5" + MAN);
    }

    // ---- the fault ----

    private static void faultIsTheFirst() {
        Doc.says(4, "FAULT: where the first part (a word, a NUMBER, another byte) begins that can't stand there:");
        faultAt(HEAD + ";   ^unknown 5;lid 0" + MAN);
        faultAt(HEAD + ";lid   ^600;unknown" + MAN);
        faultAt(HEAD + ";lid 5   ^?;unknown" + MAN);
        faultAt(HEAD + ";k a ^0 100 1 1");
        faultAt(HEAD + ";^lie 5;lid 0");
        faultAt(HEAD + ";lid ^five");
        faultAt(HEAD + ";^5 lid");
        faultAt("slots 1 ^k 0 0");
    }

    private static void faultOfWords() {
        Doc.says(4, "an unknown word,");
        for (String word : new String[] {"li", "lids", "clu", "clubs", "week", "weekss", "cos", "costs", "ris", "rises", "fal", "falls", "slot", "z"}) {
            faultAt(HEAD + ";^" + word + " 3" + MAN);
        }
        faultAt("^slot 1 0 0 0" + MAN);
        faultAt("^slotss 1 0 0 0" + MAN);
        for (int at = 0; at < 5; at++) {
            faultAt("^" + "slots".substring(0, at) + "q" + "slots".substring(at + 1) + " 1 0 0 0" + MAN);
            for (String rule : RULES) {
                if (at < rule.length()) {
                    faultAt(HEAD + ";^" + rule.substring(0, at) + "q" + rule.substring(at + 1) + " 3" + MAN);
                }
            }
        }
        Doc.says(4, "one that was there,");
        faultAt(HEAD + ";^slots 1 0 0 0" + MAN);
        faultAt(HEAD + ";lid 5;club 5;^lid 5" + MAN);
        faultAt(HEAD + ";fall 0;^fall 0" + MAN);
        faultAt(HEAD + ";cost 0;^cost ?" + MAN);
        Doc.says(4, "one of these behind a PLAYER,");
        for (String rule : RULES) {
            fine(HEAD + ";" + rule + " 3" + MAN);
            faultAt(HEAD + MAN + ";^" + rule + " 3");
            faultAt(HEAD + ";" + rule + " 3" + MAN + ";^" + rule + " 3");
            faultAt(HEAD + MAN + ";^" + rule + " 3" + MAN);
        }
        faultAt(HEAD + MAN + ";^slots 1 0 0 0");
    }

    private static void faultOfNumbers() {
        Doc.says(4, "a NUMBER of more digits, out of bounds,");
        fine(HEAD + ";lid 599" + MAN);
        faultAt(HEAD + ";lid ^600" + MAN);
        faultAt(HEAD + ";lid ^1000" + MAN);
        faultAt(HEAD + ";lid ^0599" + MAN);
        faultAt(HEAD + ";lid ^4294967301" + MAN);
        faultAt(HEAD + ";lid ^18446744073709551621" + MAN);
        faultAt(HEAD + ";club ^10" + MAN);
        faultAt(HEAD + ";club ^9" + MAN);
        faultAt(HEAD + ";lid ^" + "0".repeat(300) + "5");
        Doc.says(4, "a fourth D by which there are 0 or more than 6 slots,");
        faultAt("slots 0 0 0 ^0" + MAN);
        fine("slots 0 0 0 1" + MAN);
        fine("slots 3 3 0 0" + MAN);
        faultAt("slots 3 3 0 ^1" + MAN);
        fine("slots 2 2 2 0" + MAN);
        faultAt("slots 2 2 2 ^1" + MAN);
        faultAt("slots 3 3 3 ^0" + MAN);
        faultAt("slots 3 3 3 ^3" + MAN);
        faultAt("slots 3 3 3 ^4" + MAN);
        faultAt("slots 3 3 3^");
        faultAt("slots 3 3 3^;");
        faultAt("slots 3 3 ^4 0" + MAN);
    }

    private static void faultOfPlayers() {
        Doc.says(4, "a 17th PLAYER (at k, b, m, f),");
        String fifteen = HEAD + ";weeks 1" + men(15);
        for (char c : new char[] {'k', 'b', 'm', 'f'}) {
            fine(fifteen + ";" + c + " a1 1");
            faultAt(fifteen + men(1) + ";  ^" + c + " a1 1");
            faultAt(fifteen + men(1) + ";^" + c);
        }
        faultAt(fifteen + men(1) + ";^");
        faultAt(fifteen + men(1) + ";^lid 5");
        faultAt(fifteen + men(1) + " ^1");
    }

    private static void faultOfBytes() {
        Doc.says(4, "any other byte;");
        for (int code = 1; code < 256; code++) {
            char c = (char) code;
            boolean isWord = c >= 'a' && c <= 'z';
            boolean isDigit = c >= '0' && c <= '9';
            if (c == ' ' || c == ';') {
                continue;
            }
            faultAt(isDigit ? "slots 1 0 0 ^0" + c + MAN : HEAD + "^" + c + MAN);
            if (!isWord) {
                faultAt("^" + c + HEAD + MAN);
                faultAt(HEAD + ";^" + c + "k a 1 1 1 1");
                faultAt(HEAD + ";k ^" + c + "a 1 1 1 1");
            }
            if (!isDigit && c != '-') {
                faultAt(HEAD + ";k a ^" + c + "1 1 1 1");
                faultAt(HEAD + ";k a 1 ^" + c + "1 1 1");
                faultAt(HEAD + ";k a 1 -^" + c + "1 1 1");
            }
        }
    }

    private static void faultAtTheEnd() {
        Doc.says(4, "the length, if the TEXT ends too early.");
        String text = "slots 1 0 0 0;weeks 2;k a 5 -3 4";
        for (int n = 0; n < text.length(); n++) {
            // A word that is cut is another word.
            int want = n < 5 ? 0 : n > 14 && n < 19 ? 14 : n;
            Doc.due("the fault of its first " + n, Check.faultOf(text.substring(0, n)), want);
        }
        fine(text);
        fine(text + " ");
        faultAt("   ^");
        faultAt(" slots  ^");
        faultAt(HEAD + ";k a 5 -  ^");
        Doc.says(4, "(A PLAYER is needed, so a TEXT without is wrong at its end.)");
        faultAt(HEAD + "^");
        faultAt(HEAD + " ^");
        faultAt(HEAD + ";^");
        faultAt(HEAD + ";lid 5^");
        faultAt(HEAD + ";lid 5;club 1;weeks 1;cost 1;rise 1;fall 1  ^");
        fine(HEAD + MAN);
    }

    private static void faultLeavesAll() {
        Doc.says(4, "The FAULT of the TAPE as a LEAGUE. NONE: none.");
        SalaryLid x = Check.told(HEAD + ";lid 7;k a 5 1 2 3");
        x.begin(1);
        x.week();
        Check.feed(x, "slots 0 1 0 0;lid 9;b f 9 1 2 3");
        Doc.due("no fault", x.fault(), NONE);
        Doc.due("again", x.fault(), NONE);
        Doc.due("the tape stays", x.count(0), 31);
        Doc.due("the league stays", x.rule(4), 7);
        Doc.due("its players stay", Check.player(x, 0, 1), 0);
        Doc.due("its prices stay", x.price(1), 4);
        Doc.due("what was played stays", x.now(9), 2);
        x.end(30);
        Doc.due("a fault", x.fault(), 30);
        Doc.due("the rivals stay", x.rival(3, 1), 1);
        Doc.due("the teams stay", x.teams(4), 1);
        x.feed(0, 0, 0, 0, '3');
        for (int k = 0; k < 9; k++) {
            Doc.due("asked often, the same", x.fault(), NONE);
        }
        Doc.due("then it is the league", x.league(), 1);
        Doc.due("with its size", x.rule(11), 1);
        Doc.due("an empty tape", new SalaryLid().fault(), 0);
    }

    // ---- promises 5 and 6 ----

    private static void leagueEmptiesAll() {
        Doc.says(5, "The TAPE (empty then) is the LEAGUE (nothing BEGUN, no ACTS, no IMAGE): how many PLAYERS.");
        SalaryLid x = new SalaryLid();
        Check.feed(x, HEAD + ";lid 7;k a 5 1 2 3;k b 6 9 9 9");
        Doc.due("two players", x.league(), 2);
        Doc.due("the tape is empty", x.count(0), 0);
        Doc.due("it can't be told again", x.league(), NONE);
        x.begin(1);
        x.chip(0);
        x.week();
        x.image();
        x.begin(1);
        Check.feed(x, "slots 0 0 0 1;weeks 1;f c 9 4");
        Doc.due("one player", x.league(), 1);
        Doc.due("nothing begun", x.now(0), HIDDEN);
        Doc.due("no act", x.count(1), 0);
        Doc.due("none to undo", x.undo(), NONE);
        Doc.due("no image", x.back(), NONE);
        Doc.due("no tale", x.tale(0, 0), HIDDEN);
        Doc.due("no week was played", x.image(), 0);
        Doc.due("rules that aren't told are as without", x.rule(4), 99);
        Doc.due("one player alone", x.points(1, 0), HIDDEN);
        Doc.due("its teams", x.teams(99), 1);
        Doc.due("it can begin", x.begin(1), 90);
        Doc.due("chips are not played", x.now(7), 0);
        Doc.due("triple again", x.chip(0), 2);
        Doc.due("refused calls are still counted", x.status(0), 1);
    }

    private static final String LARGE = "slots 3 3 0 0;lid 599;weeks 6;cost 9;rise 1;fall 0"
        + ";k f99 99 99 99 99 99 99".repeat(3) + ";b f99 99 99 99 99 99 99".repeat(4) + ";k e9 9 9 9 9 9 9";

    private static final String SMALL = "slots 2 0 0 0;lid 20;weeks 3;rise 5;fall 1;k a 5 1 3 5;k b 5 2 2 2;k c 6 9 1 1";

    /** An object that had leagues of more weeks, players and points, with all that can be going on in them. */
    private static SalaryLid used(boolean onLoan) {
        SalaryLid x = new SalaryLid();
        for (int turn = 0; turn < 3; turn++) {
            Check.feed(x, LARGE);
            x.league();
            x.begin(63);
            x.captain(3);
            x.plan(0);
            x.week();
            x.chip(turn % 2);
            x.swap(3, 6);
            x.swap(6, 3);
            x.week();
            x.swap(3, 6);
            if (onLoan) {
                x.undo();
                x.loan(63);
            }
            x.plan(0);
            x.rival(turn, 0);
            x.steady(599, 0);
            x.stairs(5, 0, 0);
        }
        return x;
    }

    /** What was in the object ahead of a league is not to be seen in any answer behind it. */
    private static void leagueIsLikeTheFirst() {
        SalaryLid x = used(true);
        SalaryLid fresh = new SalaryLid();
        Check.feed(x, SMALL);
        Check.feed(fresh, SMALL);
        Doc.due("the league", x.league(), fresh.league());
        sameAnswers("not begun", x, fresh);
        Doc.due("begun", x.begin(3), fresh.begin(3));
        sameAnswers("begun", x, fresh);
        SalaryLid y = used(false);
        SalaryLid other = new SalaryLid();
        Check.feed(y, SMALL);
        Check.feed(other, SMALL);
        Doc.due("the league", y.league(), other.league());
        Doc.due("begun", y.begin(6), other.begin(6));
        Doc.due("swaps", y.now(4), other.now(4));
        Doc.due("a week", y.week(), other.week());
        sameAnswers("a week was played", y, other);
    }

    private static void sameAnswers(String when, SalaryLid x, SalaryLid fresh) {
        for (int k = -1; k <= 6; k++) {
            Doc.due(when + ", rule " + k, x.rule(k + 5), fresh.rule(k + 5));
            Doc.due(when + ", now " + k, x.now(k + 4), fresh.now(k + 4));
            Doc.due(when + ", bought " + k, Check.player(x, k, 3), Check.player(fresh, k, 3));
            Doc.due(when + ", points " + k, Check.player(x, k, 5), Check.player(fresh, k, 5));
            Doc.due(when + ", tale " + k, x.tale(0, k), fresh.tale(0, k));
            Doc.due(when + ", best " + k, x.best(k, 20, 1), fresh.best(k, 20, 1));
            Doc.due(when + ", least " + k, x.least(k, 1), fresh.least(k, 1));
            Doc.due(when + ", stairs " + k, x.stairs(k, NONE, 0), fresh.stairs(k, NONE, 0));
            Doc.due(when + ", outdone " + k, x.outdone(k), fresh.outdone(k));
            Doc.due(when + ", swap " + k, x.bestSwap(k), fresh.bestSwap(k));
            Doc.due(when + ", two swaps " + k, x.twoSwaps(k), fresh.twoSwaps(k));
            Doc.due(when + ", plan " + k, x.plan(k), fresh.plan(k));
            Doc.due(when + ", plan " + (10 + k), x.plan(10 + k), fresh.plan(10 + k));
            Doc.due(when + ", plan " + (20 + k), x.plan(20 + k), fresh.plan(20 + k));
            Doc.due(when + ", price then " + k, x.priceThen(0, k), fresh.priceThen(0, k));
            Doc.due(when + ", worth then " + k, x.worthThen(k), fresh.worthThen(k));
            Doc.due(when + ", steady " + k, x.steady(20, k), fresh.steady(20, k));
            Doc.due(when + ", regret " + k, x.regret(k), fresh.regret(k));
            Doc.due(when + ", rival " + k, x.rival(k, 0), fresh.rival(k, 0));
            Doc.due(when + ", its team " + k, x.rival(k, 1), fresh.rival(k, 1));
            Doc.due(when + ", weight " + k, x.weight(k, 0), fresh.weight(k, 0));
            Doc.due(when + ", most " + k, x.most(k), fresh.most(k));
        }
        Doc.due(when + ", ahead", x.ahead(0, 50), fresh.ahead(0, 50));
        Doc.due(when + ", teams", x.teams(599), fresh.teams(599));
        Doc.due(when + ", held", x.held(599, 0, 1), fresh.held(599, 0, 1));
        Doc.due(when + ", must", x.must(0, 599), fresh.must(0, 599));
        Doc.due(when + ", acts", x.count(1), fresh.count(1));
        Doc.due(when + ", bytes", x.count(0), fresh.count(0));
    }

    private static void leagueRefused() {
        Doc.says(5, "NONE: a FAULT (all stays, the TAPE, too).");
        SalaryLid x = new SalaryLid();
        Doc.due("an empty tape", x.league(), NONE);
        Check.feed(x, HEAD + ";lid 7;k a 5 1 2 3;k b 6 9 9 9");
        x.league();
        x.begin(1);
        x.image();
        x.week();
        Check.feed(x, "slots 0 1 0 0;lid 9;b f 9 1 2");
        Doc.due("it ends too early", x.league(), NONE);
        Doc.due("the tape stays", x.count(0), 29);
        Doc.due("its fault", x.fault(), 29);
        Doc.due("the rules stay", x.rule(0), 1);
        Doc.due("the lid stays", x.rule(4), 7);
        Doc.due("the players stay", Check.player(x, 1, 1), 1);
        Doc.due("the prices stay", x.price(3), 4 + 7);
        Doc.due("what is owned stays", x.now(6), 1);
        Doc.due("acts stay", x.count(1), 2);
        Doc.due("the tale stays", x.tale(0, 0), 2);
        Doc.due("teams stay", x.teams(11), 2);
        Doc.due("the image stays", x.back(), 0);
        x.feed(0, 0, 0, 0, ' ' << 8 | '3');
        Doc.due("with what was missing", x.league(), 1);
        Doc.due("the new lid", x.rule(4), 9);
    }

    private static void rules() {
        Doc.says(6, "0 to 3 slots of a PLACE, 4 the lid, 5 club, 6 weeks, 7 cost, 8 rise, 9 fall, 10 PLAYERS, 11 SIZE.");
        SalaryLid x = Check.told("slots 0 1 2 3;lid 301;club 5;weeks 2;cost 7;rise 8;fall 9;k a 1 1 1;k a 1 1 1");
        int[] want = {0, 1, 2, 3, 301, 5, 2, 7, 8, 9, 2, 6};
        for (int what = 0; what < 12; what++) {
            Doc.due("what " + what, x.rule(what), want[what]);
        }
        Doc.says(6, "HIDDEN: no LEAGUE, no such what.");
        Doc.bounds("what", x::rule, 0, 11, HIDDEN);
        for (int what = -1; what <= 12; what++) {
            Doc.due("no league, what " + what, new SalaryLid().rule(what), HIDDEN);
        }
    }

    /** An object is used for at most 512 calls: the last of these answers as the first one did. */
    private static void manyCalls() {
        Doc.says(40, "STATUS: how many calls of these were refused:");
        SalaryLid x = new SalaryLid();
        for (int calls = 1; calls < 512; calls++) {
            x.week();
        }
        Doc.due("511 refused, at the 512th call", x.status(0), 511);
        SalaryLid y = Check.told(HEAD + MAN + MAN);
        y.begin(1);
        for (int calls = 4; calls < 510; calls++) {
            y.swap(calls % 2, (calls + 1) % 2);
        }
        Doc.due("506 swaps of a week", y.now(4), 506);
        Doc.due("the score behind them, at the 512th call", y.week(), 2 - 505 * 4);
    }
}
