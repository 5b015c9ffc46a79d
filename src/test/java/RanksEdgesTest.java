import java.math.BigInteger;

/** Promises 31 to 49: ranks, chance, hearsay, breaks, laws, years and what is kept, at the edges that the document names. */
public final class RanksEdgesTest {
    private static final int LEAST = Integer.MIN_VALUE;
    private static final int MOST = Integer.MAX_VALUE;
    private static final int[] NOBODY = {-1, Sand.MIXED_FIGHTERS, 8, LEAST, MOST};

    public static void main(String[] args) {
        scoreRefusals();
        scoreTwenty();
        wash();
        ranks();
        standsRange();
        stands();
        places();
        watch();
        odds();
        till();
        heardRange();
        heardTwelve();
        fits();
        ask();
        rests();
        law();
        yearsRange();
        years();
        keepRange();
        again();
        count();
        row();
        rowsAreToldAnew();
        questionsWithoutRow();
        Sand.finish();
    }

    private static ByTheThumbs many(int fighters) {
        return Sand.world(Sand.EIGHT.substring(0, Math.max(0, 7 * fighters - 1)), "");
    }

    /** So many in a chain, the last number the highest. */
    private static ByTheThumbs chain(int fighters) {
        ByTheThumbs x = many(fighters);
        for (int i = 1; i < fighters; i++) {
            x.score(i, i - 1);
        }
        return x;
    }

    // ---- 31, 32: scores

    private static void scoreRefusals() {
        int[][] none = {{0, 0}, {2, 2}, {5, 0}, {0, 5}, {-1, 0}, {0, -1}, {LEAST, 0}, {0, MOST}, {8, 9}};
        for (int[] p : none) {
            Sand.refused("31: score(" + p[0] + ", " + p[1] + ")", x -> x.score(p[0], p[1]), -1);
        }
        Sand.refused("31: the other one is above him", x -> x.score(1, 0), -2);
        Sand.refused("31: the other one is above him", x -> x.score(2, 4), -2);
        for (int one = 0; one < 8; one++) {
            for (int other = 0; other < 8; other++) {
                int want = one == other ? -1 : one < other ? -2 : 8;
                Sand.due("31: through others: score(" + one + ", " + other + ")", chain(8).score(one, other), want);
            }
        }
        ByTheThumbs x = Sand.mixed();
        Sand.due("31: of the DEAD and the FREED", x.score(2, 3), 3);
        Sand.due("31: the same again is one more", x.score(2, 3), 4);
        Sand.due("31: above him through another", x.score(3, 4), -2);
        Sand.due("31: scores", x.count(9), 4);
        Sand.due("31: to be undone", x.count(11), 6);
        Sand.row("31: the ROW stays", x, 3, 4);
    }

    private static ByTheThumbs scores(int many) {
        ByTheThumbs x = Sand.mixed();
        for (int i = 2; i < many; i++) {
            x.score(0, 1);
        }
        return x;
    }

    private static void scoreTwenty() {
        Sand.due("31: the nineteenth", scores(18).score(3, 4), 19);
        Sand.due("31: the twentieth", scores(19).score(3, 4), 20);
        Sand.due("31: the twentieth is told", twentieth().places(4), 13);
        Sand.refused("31: 20", () -> scores(20), x -> x.score(3, 4), -1);
        Sand.refused("31: 20, and the other one is above him", () -> scores(20), x -> x.score(1, 0), -1);
        Sand.refused("31: 19, and the other one is above him", () -> scores(19), x -> x.score(1, 0), -2);
        ByTheThumbs x = scores(20);
        Sand.due("32: 20 are washed off", x.wash(), 20);
        Sand.due("32: there is room again", x.score(1, 0), 1);
    }

    private static ByTheThumbs twentieth() {
        ByTheThumbs x = scores(19);
        x.score(3, 4);
        return x;
    }

    private static void wash() {
        ByTheThumbs x = chain(8);
        Sand.due("32: wash", x.wash(), 7);
        Sand.due("32: scores", x.count(9), 0);
        Sand.due("32: none", x.wash(), 0);
        Sand.due("32: all orders", x.ranks(), 40320);
        for (int i = 0; i < 8; i++) {
            Sand.due("32: nobody is above", x.places(i), 7);
        }
        Sand.due("32: the other way round", x.score(0, 7), 1);
        Sand.due("32: of nothing", new ByTheThumbs().wash(), 0);
    }

    // ---- 33 to 36

    private static void ranks() {
        int orders = 1;
        for (int fighters = 0; fighters <= 8; fighters++) {
            orders *= Math.max(1, fighters);
            ByTheThumbs x = many(fighters);
            x.odds(2, 1, 5);
            Sand.due("33: orders of " + fighters, x.ranks(), orders);
            long[] least = new long[fighters];
            long[] last = new long[fighters];
            for (int i = 0; i < fighters; i++) {
                least[i] = i;
                last[i] = fighters - 1 - i;
            }
            Sand.row("33: the least of " + fighters, x, least);
            ByTheThumbs one = chain(fighters);
            Sand.due("33: a chain of " + fighters, one.ranks(), 1);
            Sand.row("33: a chain of " + fighters, one, last);
        }
        ByTheThumbs mixed = Sand.mixed();
        Sand.due("33: the DEAD and the FREED too", mixed.ranks(), 30);
        Sand.row("33: the DEAD and the FREED too", mixed, 0, 1, 3, 4, 2);
        ByTheThumbs more = chain(3);
        Sand.fighters(more, "n11000");
        Sand.due("33: one more came, scores stay", more.ranks(), 4);
        Sand.row("33: one more came, scores stay", more, 2, 1, 0, 3);
        Sand.question("33: it changes nothing", x -> x.ranks());
    }

    private static void standsRange() {
        for (int i : NOBODY) {
            Sand.refused("34: stands(" + i + ", 0)", x -> x.stands(i, 0), -1);
            Sand.refused("34: stands(0, " + i + ")", x -> x.stands(0, i), -1);
        }
        Sand.due("34: no FIGHTERS", new ByTheThumbs().stands(0, 0), -1);
        ByTheThumbs alone = many(1);
        Sand.due("34: alone", alone.stands(0, 0), 1);
        Sand.row("34: alone", alone, 1, 1);
        Sand.due("34: alone, no place 1", alone.stands(0, 1), -1);
        ByTheThumbs x = Sand.mixed();
        Sand.due("34: at the last place", x.stands(4, 4), 0);
        Sand.row("34: 0 by 1", x, 0, 1);
        Sand.question("34: it changes nothing", y -> y.stands(3, 2));
    }

    private static void stands() {
        ByTheThumbs eight = many(8);
        for (int place = 0; place < 8; place++) {
            Sand.due("34: eight alike", eight.stands(7 - place, place), 5040);
            Sand.row("34: eight alike", eight, 1, 8);
        }
        ByTheThumbs chain = chain(8);
        for (int i = 0; i < 8; i++) {
            for (int place = 0; place < 8; place++) {
                boolean is = place == 7 - i;
                Sand.due("34: a chain of eight", chain.stands(i, place), is ? 1 : 0);
                Sand.row("34: a chain of eight", chain, is ? 1 : 0, 1);
            }
        }
        ByTheThumbs x = Sand.mixed();
        int[] of4 = {12, 9, 6, 3, 0};
        int[][] fractions = {{2, 5}, {3, 10}, {1, 5}, {1, 10}, {0, 1}};
        for (int place = 0; place < 5; place++) {
            Sand.due("34: of two pairs and one", x.stands(4, place), of4[place]);
            Sand.row("34: lowest terms", x, fractions[place][0], fractions[place][1]);
            Sand.due("34: of two pairs and one", x.stands(2, 4 - place), of4[place]);
            Sand.due("34: the one", x.stands(3, place), 6);
        }
    }

    private static void places() {
        for (int i : NOBODY) {
            Sand.refused("35: places(" + i + ")", x -> x.places(i), -1);
        }
        for (int fighters = 1; fighters <= 8; fighters++) {
            ByTheThumbs free = many(fighters);
            ByTheThumbs chain = chain(fighters);
            for (int i = 0; i < fighters; i++) {
                Sand.due("35: free of " + fighters, free.places(i), fighters - 1);
                Sand.due("35: in a chain of " + fighters, chain.places(i), 11 * (fighters - 1 - i));
            }
        }
        Sand.refused("35: it tells no ROW and changes nothing", x -> x.places(0), 3);
        Sand.refused("35: below one of five", x -> x.places(2), 14);
    }

    private static void watch() {
        Sand.due("36: no FIGHTERS", many(0).watch(), -2);
        Sand.due("36: one FIGHTER", many(1).watch(), -2);
        for (int fighters = 2; fighters <= 8; fighters++) {
            int f = fighters;
            ByTheThumbs x = many(fighters);
            int half = 1;
            for (int i = 3; i <= fighters; i++) {
                half *= i;
            }
            Sand.due("36: " + fighters + " alike", x.watch(), half);
            Sand.row("36: the least row", x, 0, 1);
            Sand.refused("36: one order alone of " + fighters, () -> chain(f), y -> y.watch(), -2);
        }
        ByTheThumbs last = many(4);
        last.score(0, 1);
        last.score(1, 2);
        last.score(0, 3);
        last.score(1, 3);
        Sand.due("36: two orders", last.watch(), 1);
        Sand.row("36: the last pair", last, 2, 3);
        ByTheThumbs uneven = many(4);
        uneven.score(0, 1);
        uneven.score(0, 2);
        // 3 is anywhere: of 8 orders he is ahead of 0 in 2, ahead of 1 in 5; 1 with 2 parts them in halves.
        Sand.due("36: at most", uneven.watch(), 4);
        Sand.row("36: at most", uneven, 1, 2);
        Sand.question("36: it changes nothing", x -> x.watch());
    }

    // ---- 37, 38: chance

    private static void fraction(String what, ByTheThumbs x, BigInteger upper, BigInteger lower) {
        BigInteger divisor = upper.gcd(lower);
        Sand.row(what, x, upper.divide(divisor).longValueExact(), lower.divide(divisor).longValueExact());
    }

    private static void odds() {
        for (int n = 1; n <= 10; n++) {
            ByTheThumbs x = new ByTheThumbs();
            for (int k = 0; k <= 10; k++) {
                for (int p = 0; p <= 10; p += k % 3 == 0 ? 1 : 5) {
                    Sand.due("37: odds(" + n + ", " + k + ", " + p + ")", x.odds(n, k, p), 0);
                    fraction("37: odds(" + n + ", " + k + ", " + p + ")", x, orMore(n, k, p), BigInteger.TEN.pow(n));
                }
            }
        }
        int[][] bad = {{0, 1, 1}, {11, 1, 1}, {-1, 1, 1}, {1, -1, 1}, {1, 11, 1}, {1, 1, -1}, {1, 1, 11}, {LEAST, 0, 0}, {MOST, 0, 0},
            {1, LEAST, 0}, {1, MOST, 0}, {1, 0, LEAST}, {1, 0, MOST}};
        for (int[] b : bad) {
            Sand.refused("37: odds(" + b[0] + ", " + b[1] + ", " + b[2] + ")", x -> x.odds(b[0], b[1], b[2]), -1);
        }
        Sand.question("37: it changes nothing", x -> x.odds(1, 1, 1));
    }

    /** By the first fight: of 10 to the power of n. */
    private static BigInteger orMore(int n, int k, int p) {
        if (k <= 0) {
            return BigInteger.TEN.pow(n);
        }
        if (k > n) {
            return BigInteger.ZERO;
        }
        return orMore(n - 1, k - 1, p).multiply(BigInteger.valueOf(p)).add(orMore(n - 1, k, p).multiply(BigInteger.valueOf(10 - p)));
    }

    private static void till() {
        for (int a = 1; a <= 6; a++) {
            for (int b = 1; b <= 6; b++) {
                ByTheThumbs x = new ByTheThumbs();
                for (int p = 0; p <= 10; p++) {
                    String what = "38: till(" + a + ", " + b + ", " + p + ")";
                    Sand.due(what, x.till(a, b, p), 0);
                    fraction(what, x, first(a, b, p), BigInteger.TEN.pow(a + b - 1));
                }
            }
        }
        int[][] bad = {{0, 1, 1}, {7, 1, 1}, {-1, 1, 1}, {1, 0, 1}, {1, 7, 1}, {1, -1, 1}, {1, 1, -1}, {1, 1, 11}, {LEAST, 1, 1}, {1, MOST, 1},
            {1, 1, MOST}};
        for (int[] b : bad) {
            Sand.refused("38: till(" + b[0] + ", " + b[1] + ", " + b[2] + ")", x -> x.till(b[0], b[1], b[2]), -1);
        }
        Sand.question("38: it changes nothing", x -> x.till(1, 1, 1));
    }

    /** By the first fight: of 10 to the power of a + b - 1. */
    private static BigInteger first(int a, int b, int p) {
        if (a == 0) {
            return BigInteger.TEN.pow(b - 1);
        }
        if (b == 0) {
            return BigInteger.ZERO;
        }
        BigInteger won = first(a - 1, b, p).multiply(BigInteger.valueOf(p));
        return won.add(first(a, b - 1, p).multiply(BigInteger.valueOf(10 - p)));
    }

    // ---- 39 to 42: who it was

    private static void heardRange() {
        int[][] ranges = {{0, 3}, {0, 99}, {0, 3}, {1, 9}, {0, 1}};
        for (int what = 0; what < 5; what++) {
            int w = what;
            int low = ranges[what][0];
            int high = ranges[what][1];
            for (int v : new int[] {low - 1, high + 1, LEAST, MOST}) {
                Sand.refused("39: heard(" + w + ", " + v + ")", x -> x.heard(w, v), -1);
            }
            Sand.due("39: the least of " + what, Sand.mixed().heard(what, low), 2);
            Sand.due("39: the most of " + what, Sand.mixed().heard(what, high), 2);
        }
        for (int what : new int[] {-1, 5, LEAST, MOST}) {
            Sand.refused("39: heard(" + what + ", 1)", x -> x.heard(what, 1), -1);
        }
        ByTheThumbs x = Sand.mixed();
        x.heard(0, 0);
        Sand.due("39: to be undone", x.count(11), 6);
        Sand.row("39: the ROW stays", x, 3, 4);
    }

    private static ByTheThumbs heard(int many) {
        ByTheThumbs x = Sand.mixed();
        for (int i = 1; i < many; i++) {
            x.heard(1, i);
        }
        return x;
    }

    private static void heardTwelve() {
        Sand.due("39: the eleventh", heard(10).heard(0, 0), 11);
        ByTheThumbs x = heard(11);
        Sand.due("39: the twelfth", x.heard(0, 0), 12);
        Sand.due("39: the twelfth counts", x.fits(), 17);
        Sand.refused("39: 12", () -> heard(12), y -> y.heard(0, 1), -1);
        Sand.due("40: 12 are forgotten", x.forget(), 12);
        Sand.due("40: none", x.forget(), 0);
        Sand.due("40: what was heard", x.count(10), 0);
        Sand.due("41: all fit then", x.fits(), 31);
        Sand.due("39: there is room again", x.heard(0, 1), 1);
        Sand.due("40: of nothing", new ByTheThumbs().forget(), 0);
    }

    private static int fitting(int what, int v) {
        ByTheThumbs x = Sand.mixed();
        x.forget();
        x.heard(what, v);
        int bits = x.fits();
        Sand.row("41: heard(" + what + ", " + v + ")", x, Integer.bitCount(bits));
        return bits;
    }

    private static void fits() {
        Sand.due("41: ARMS 0", fitting(0, 0), 17);
        Sand.due("41: ARMS 3", fitting(0, 3), 8);
        Sand.due("41: FAVOUR 0 or more", fitting(1, 0), 31);
        Sand.due("41: just FAVOUR", fitting(1, 47), 1);
        Sand.due("41: one more than FAVOUR", fitting(1, 48), 0);
        Sand.due("41: FAVOUR 99", fitting(1, 99), 0);
        Sand.due("41: OWNER", fitting(2, 0), 31);
        Sand.due("41: another OWNER", fitting(2, 3), 0);
        Sand.due("41: just HIRE", fitting(3, 1), 31);
        Sand.due("41: DEAD", fitting(4, 1), 4);
        Sand.due("41: not DEAD: FREED too", fitting(4, 0), 27);
        ByTheThumbs hire = Sand.world("n11000;n12000;n18000;n19000", "");
        hire.heard(3, 8);
        Sand.due("41: HIRE 8 or less", hire.fits(), 7);
        hire.heard(3, 1);
        Sand.due("41: HIRE 1 or less", hire.fits(), 1);
        ByTheThumbs none = new ByTheThumbs();
        Sand.due("41: no FIGHTERS", none.fits(), 0);
        Sand.row("41: no FIGHTERS", none, 0);
        ByTheThumbs like = Sand.world("n11099;n11098", "");
        like.heard(1, 99);
        Sand.due("41: FAVOUR 99 or more", like.fits(), 1);
        like.sheet(0, 2, 98, 1);
        Sand.due("41: FAVOUR is that of now", like.fits(), 2);
        Sand.question("41: it changes nothing", x -> x.fits());
    }

    private static void ask() {
        String[] hires = {"1", "9", "19", "99", "11", "1122", "123456789".substring(0, 8), "8899", "1999", "1119", "2222"};
        int[] v = {1, 1, 1, 1, 1, 1, 4, 8, 1, 1, 1};
        int[] left = {1, 1, 1, 2, 2, 2, 4, 2, 3, 3, 4};
        for (int i = 0; i < hires.length; i++) {
            StringBuilder told = new StringBuilder();
            for (char hire : hires[i].toCharArray()) {
                told.append(";n1").append(hire).append("00");
            }
            ByTheThumbs x = Sand.world(told.substring(1), "");
            Sand.due("42: HIRES " + hires[i], x.ask(), v[i]);
            Sand.row("42: HIRES " + hires[i], x, left[i]);
        }
        ByTheThumbs fit = Sand.world("n11000;n12000;s17000;s19000", "");
        fit.heard(0, 1);
        Sand.due("42: of those that fit", fit.ask(), 7);
        Sand.row("42: of those that fit", fit, 1);
        Sand.refused("42: none fits", RanksEdgesTest::noneFits, x -> x.ask(), -2);
        Sand.due("42: no FIGHTERS", new ByTheThumbs().ask(), -2);
        Sand.question("42: it changes nothing", x -> x.ask());
    }

    private static ByTheThumbs noneFits() {
        ByTheThumbs x = Sand.mixed();
        x.heard(1, 99);
        return x;
    }

    // ---- 43 to 45

    private static int has(int mine, int his, int v) {
        if (mine < his) {
            return v + mine;
        }
        return mine > his ? his : v / 2 + mine;
    }

    private static void rests() {
        for (int v = 0; v <= 99; v++) {
            int pairs = 0;
            int least = -1;
            for (int pair = 99; pair >= 0; pair--) {
                int x = pair / 10;
                int y = pair % 10;
                boolean rests = true;
                for (int other = 0; other < 10; other++) {
                    rests &= has(other, y, v) <= has(x, y, v) && has(other, x, v) <= has(y, x, v);
                }
                pairs += rests ? 1 : 0;
                least = rests ? pair : least;
            }
            ByTheThumbs x = new ByTheThumbs();
            Sand.due("43: rests(" + v + ")", x.rests(v), pairs);
            Sand.row("43: rests(" + v + ")", x, least / 10, least % 10);
        }
        ByTheThumbs x = new ByTheThumbs();
        int[] first = {10, 28, 10, 1, 1};
        for (int v = 0; v < first.length; v++) {
            Sand.due("43: v " + v, x.rests(v), first[v]);
        }
        for (int v : new int[] {-1, 100, LEAST, MOST}) {
            Sand.refused("43: rests(" + v + ")", y -> y.rests(v), -1);
        }
        Sand.question("43: it changes nothing", y -> y.rests(99));
    }

    private static void law() {
        ByTheThumbs x = Sand.mixed();
        Sand.due("44: those that are HERE, HURT 9 too", Sand.law(x, "9-s"), 2);
        Sand.row("44: the first such", x, 0, 1);
        Sand.due("44: THE RULE stays", x.strength(0, 4), 93);
        Sand.due("44: like ones: the first wins", Sand.law(x, "0"), 1);
        Sand.row("44: like ones: the first wins", x, 1, 4);
        Sand.due("44: none", Sand.law(x, "s*10-h*5+w"), 0);
        Sand.row("44: nothing without", x);
        ByTheThumbs none = new ByTheThumbs();
        none.odds(1, 1, 1);
        Sand.due("44: no FIGHTERS", Sand.law(none, "s"), 0);
        Sand.row("44: no FIGHTERS: nothing", none);
        ByTheThumbs all = Sand.world("n81000;n71000;n61000;n51000;n41000;n31000;n21000;n11000", "");
        Sand.due("44: all pairs of eight", Sand.law(all, "9-s"), 28);
        Sand.row("44: all pairs of eight", all, 0, 1);
        Sand.due("44: the last pair alone", Sand.law(all, "s+(s=1)*2"), 1);
        Sand.row("44: the last pair alone", all, 6, 7);
        Sand.due("44: an empty one is the RULE at first", Sand.law(all, ""), 0);
        Sand.rule(all, "9-s");
        Sand.due("44: an empty one against another", Sand.law(all, ""), 28);
        Sand.question("44: it changes nothing", Sand::textless, y -> Sand.law(y, "9-s"));
    }

    private static void yearsRange() {
        for (int n : new int[] {0, 61, -1, LEAST, MOST}) {
            Sand.refused("45: years(1, " + n + ")", x -> x.years(1, n), -1);
            Sand.refused("45: no FIGHTERS is asked first, n " + n, ByTheThumbs::new, x -> x.years(1, n), -2);
        }
        Sand.refused("45: no FIGHTERS", () -> Sand.world("", "1,1,1"), x -> x.years(1, 1), -2);
        ByTheThumbs alone = many(1);
        Sand.due("45: one alone, 1", alone.years(MOST, 1), 0);
        Sand.row("45: one alone, 1", alone, 0, 0, 1000);
        Sand.due("45: one alone, 60", alone.years(LEAST, 60), 0);
        Sand.row("45: one alone, 60", alone, 0, 0, 1000);
        Sand.question("45: it changes nothing", x -> x.years(3, 60));
        Sand.question("45: it changes nothing, though some die", () -> Sand.world("n91000;s11000;p51010", "9,40,0"), x -> x.years(3, 60));
    }

    /** By the calls themselves on a twin: for each n from 1 to 60, so that no DAY comes too early or too late. */
    private static void years() {
        String[] told = {"n51030;s31030", "n91030;s71020;p51010", "n91099;s11099;p31099;l51099;n71099", Sand.EIGHT};
        int[] seeds = {0, 1, -1, 12345, LEAST, MOST, -987654321};
        for (String fighters : told) {
            for (int seed : seeds) {
                ByTheThumbs twin = Sand.world(fighters, "9,30,0");
                twin.set(0, 9);
                int fought = 0;
                int random = seed;
                for (int n = 1; n <= 60; n++) {
                    random = random * 1103515245 + 12345;
                    int one = (int) (Integer.toUnsignedLong(random) / 65536 % twin.count(0));
                    random = random * 1103515245 + 12345;
                    int other = (int) (Integer.toUnsignedLong(random) / 65536 % twin.count(0));
                    fought += twin.fight(one, other) >= 0 ? 1 : 0;
                    if (n % 3 == 0) {
                        twin.days(1);
                    }
                    ByTheThumbs x = Sand.world(fighters, "9,30,0");
                    x.set(0, 9);
                    String what = "45: years(" + seed + ", " + n + ") of " + fighters;
                    Sand.due(what, x.years(seed, n), fought);
                    Sand.row(what, x, Integer.bitCount(twin.count(6)), Integer.bitCount(twin.count(7)), twin.count(3));
                }
            }
        }
        ByTheThumbs later = Sand.world("n91000;s11000;p91000;l11000", "9,30,0");
        later.fight(0, 1);
        later.set(0, 1);
        later.years(1, 60);
        Sand.row("45: DEAD more, FREED more: those of before do not count", later, 1, 1, 896);
    }

    // ---- 46 to 49: kept

    private static void keepRange() {
        for (int i : new int[] {-1, 2, 3, LEAST, MOST}) {
            Sand.refused("46: keep(" + i + ")", x -> x.keep(i) ? 1 : 0, 0);
            Sand.refused("47: again(" + i + ")", x -> x.again(i) ? 1 : 0, 0);
        }
        for (int i = 0; i < 2; i++) {
            int kept = i;
            Sand.refused("47: nothing kept under " + i, () -> keptUnder(1 - kept), x -> x.again(kept) ? 1 : 0, 0);
            ByTheThumbs x = keptUnder(i);
            Sand.due("47: kept under " + i, x.again(i), true);
            Sand.due("47: it is as it was kept", x.count(4), 5);
            ByTheThumbs over = Sand.mixed();
            over.days(7);
            Sand.due("46: kept over what was kept", over.keep(i), true);
            over.days(1);
            over.again(i);
            Sand.due("46: the later one", over.count(4), 7);
            over.again(1 - i);
            Sand.due("46: the other number stays", over.count(4), 0);
        }
        ByTheThumbs empty = new ByTheThumbs();
        Sand.due("46: without FIGHTERS", empty.keep(0), true);
        empty.set(1, 1);
        Sand.due("47: without FIGHTERS", empty.again(0), true);
        Sand.due("47: MEANS", empty.count(3), 1000);
    }

    private static ByTheThumbs keptUnder(int i) {
        ByTheThumbs x = Sand.world("n91030;s11030", "9,20,0");
        x.days(5);
        x.keep(i);
        x.fight(0, 1);
        return x;
    }

    private static void again() {
        ByTheThumbs x = Sand.mixed();
        x.set(0, 3);
        x.score(1, 3);
        x.heard(0, 0);
        Sand.rule(x, "7");
        Sand.put(x, "d1");
        Sand.due("47: 0", x.again(0), true);
        Sand.due("47: FIGHTERS are as they were", x.count(5), 31);
        Sand.due("47: HURT is", x.fighter(1, 5), 6);
        Sand.due("47: MEANS are", x.count(3), 996);
        Sand.due("47: PURSES are", x.purse(0), 4);
        Sand.due("47: SEEN is", x.count(8), 1);
        Sand.due("47: nothing is left to be undone", x.undo(), -1);
        Sand.due("47: SWORD stays", x.count(2), 3);
        Sand.due("47: THE RULE stays", x.strength(0, 1), 7);
        Sand.due("47: scores stay", x.count(9), 3);
        Sand.due("47: what was heard stays", x.count(10), 2);
        Sand.due("47: THE TEXT stays", x.count(13), 2);
        Sand.row("47: the ROW stays", x, 3, 4);
        Sand.due("47: 1", x.again(1), true);
        Sand.due("47: as it was later", x.count(6), 4);
        Sand.due("47: 0 once more", x.again(0), true);
        Sand.due("47: as it was earlier", x.count(6), 0);
        againBehindNewOnes();
    }

    private static void againBehindNewOnes() {
        Sand.Call[] coming = {x -> Sand.fighters(x, "n11000"), x -> Sand.seats(x, "1,1,1")};
        for (Sand.Call come : coming) {
            Sand.Build came = () -> {
                ByTheThumbs x = Sand.textless();
                come.on(x);
                x.days(1);
                return x;
            };
            Sand.refused("47: FIGHTERS or SEATS came since, 0", came, x -> x.again(0) ? 1 : 0, 0);
            Sand.refused("47: FIGHTERS or SEATS came since, 1", came, x -> x.again(1) ? 1 : 0, 0);
            ByTheThumbs kept = came.make();
            kept.keep(1);
            kept.days(9);
            Sand.due("47: kept since", kept.again(1), true);
            Sand.due("47: kept since", kept.count(4), 1);
            Sand.due("47: not the other one", kept.again(0), false);
        }
        Sand.Call[] nothing = {x -> Sand.fighters(x, ""), x -> Sand.seats(x, ""), x -> Sand.fighters(x, "n1"), x -> Sand.seats(x, "1,1"),
            x -> Sand.rule(x, "1"), x -> x.undo()};
        for (int i = 0; i < nothing.length; i++) {
            ByTheThumbs x = Sand.textless();
            nothing[i].on(x);
            Sand.due("47: nothing came by " + i, x.again(0), true);
            Sand.due("47: nothing came by " + i, x.again(1), true);
        }
    }

    private static void count() {
        for (int what : new int[] {-1, 14, LEAST, MOST}) {
            Sand.refused("48: count(" + what + ")", x -> x.count(what), -1);
        }
        ByTheThumbs x = Sand.mixed();
        int[] want = {5, 2, 9, 935, 0, 19, 4, 8, 2, 2, 1, 6, 2, 6};
        for (int what = 0; what <= 13; what++) {
            Sand.due("48: count(" + what + ")", x.count(what), want[what]);
        }
        ByTheThumbs full = Sand.world(Sand.EIGHT, Sand.times(8, ";1,1,1").substring(1));
        Sand.due("48: eight FIGHTERS", full.count(0), 8);
        Sand.due("48: eight SEATS", full.count(1), 8);
        Sand.due("48: all HERE", full.count(5), 255);
    }

    private static void row() {
        for (int i : new int[] {-1, 2, 3, LEAST, MOST}) {
            Sand.refusedByThrow("49: row(" + i + ") of 2", x -> x.row(i));
        }
        ByTheThumbs x = Sand.mixed();
        Sand.due("49: the first", x.row(0), 3);
        Sand.due("49: the last", x.row(1), 4);
        Sand.question("49: it changes nothing", y -> y.row(0));
        ByTheThumbs eight = Sand.world(Sand.EIGHT, "");
        eight.ranks();
        Sand.due("49: the longest", eight.row(7), 7);
        Sand.due("49: none behind it", Sand.isThrown(y -> y.row(8), eight), true);
        eight.fits();
        Sand.due("49: a shorter one came", eight.count(12), 1);
        Sand.due("49: of the longer one nothing is left", Sand.isThrown(y -> y.row(1), eight), true);
        eight.odds(10, 10, 1);
        Sand.due("49: beyond ints", eight.row(1), 10000000000L);
    }

    /** Of a longer ROW nothing is left behind the one that is told. */
    private static void rowsAreToldAnew() {
        Sand.Call[] calls = {x -> x.fight(0, 4), x -> x.games(), x -> x.thumbs(0), x -> x.claque(0), x -> x.tips(0), x -> x.would(0, 4),
            x -> x.beats(0), x -> x.card(1), x -> x.even(), x -> x.career(0, 1), x -> x.worth(0), x -> x.hires(9), x -> x.ranks(),
            x -> x.stands(0, 0), x -> x.watch(), x -> x.odds(1, 1, 1), x -> x.till(1, 1, 1), x -> x.fits(), x -> x.ask(), x -> x.rests(5),
            x -> Sand.law(x, "9-s"), x -> Sand.law(x, "s*10-h*5+w"), x -> x.years(1, 1)};
        int[] numbers = {4, 2, 2, 1, 1, 2, 1, 2, 2, 1, 2, 2, 5, 2, 2, 2, 2, 1, 1, 2, 2, 0, 3};
        for (int i = 0; i < calls.length; i++) {
            ByTheThumbs x = Sand.mixed();
            Sand.due("2 of the Terms: five numbers", x.ranks() > 0 && x.count(12) == 5, true);
            Sand.due("2 of the Terms: call " + i + " is not refused", calls[i].on(x) >= 0, true);
            Sand.due("2 of the Terms: call " + i + " tells so many numbers", x.count(12), numbers[i]);
        }
    }

    /** Calls that tell no ROW leave the one that was told last. */
    private static void questionsWithoutRow() {
        Sand.Call[] calls = {x -> x.set(0, 2), x -> x.sheet(0, 1, 1, 1), x -> x.days(1), x -> x.song(0, 1), x -> x.frees(0), x -> x.undo(),
            x -> x.mercy(), x -> x.sword(0, 4), x -> x.score(0, 3), x -> x.wash(), x -> x.places(0), x -> x.heard(0, 0), x -> x.forget(),
            x -> x.keep(0) ? 1 : 0, x -> x.again(0) ? 1 : 0, x -> x.count(0), x -> x.purse(0), x -> x.fighter(0, 0), x -> x.seat(0, 0),
            x -> x.strength(0, 1), x -> x.sign(0), x -> x.end(0) ? 1 : 0, x -> Sand.fighters(x, "n11000"), x -> Sand.seats(x, "1,1,1"),
            x -> Sand.rule(x, "1")};
        for (int i = 0; i < calls.length; i++) {
            ByTheThumbs x = Sand.mixed();
            Sand.due("2 of the Terms: call " + i + " is not refused", calls[i].on(x) >= 0, true);
            Sand.row("2 of the Terms: call " + i + " tells no ROW", x, 3, 4);
        }
    }
}
