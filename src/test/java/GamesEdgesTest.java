/** Promises 7 to 18: the last value that is allowed and the first that is not, full and empty, and refusals that change nothing. */
public final class GamesEdgesTest {
    private static final int LEAST = Integer.MIN_VALUE;
    private static final int MOST = Integer.MAX_VALUE;

    public static void main(String[] args) {
        mixedIsAsTold();
        fighterAndSeat();
        purse();
        strengthNames();
        strengthThings();
        strengthReckoning();
        strengthByShorterRules();
        set();
        setSword();
        sheetRanges();
        sheetEntries();
        sheetRefusals();
        fightRefusals();
        fightHire();
        fightStrength();
        fightFavour();
        fightSeen();
        fightHurt();
        fightDeathByMeans();
        fightDeathByFavour();
        fightSword();
        for (int owner = 0; owner < 4; owner++) {
            fightFull(owner, true);
            fightFull(owner, false);
        }
        newOnesCome();
        daysRange();
        daysHurt();
        song();
        frees();
        gamesStop();
        undoRing();
        undoWhat();
        undoWhatAnswersNothing();
        undoForgets();
        lastCalls();
        Sand.finish();
    }

    /** Two with these, a RULE by which the one of SKILL 9 wins always, and a crowd that spares all. */
    private static ByTheThumbs two(String one, String other) {
        ByTheThumbs x = Sand.world(one + ";" + other, "");
        Sand.rule(x, "s");
        x.set(0, 9);
        return x;
    }

    private static void mixedIsAsTold() {
        ByTheThumbs x = Sand.mixed();
        Sand.due("mixed: HERE", x.count(5), 19);
        Sand.due("mixed: DEAD", x.count(6), 4);
        Sand.due("mixed: FREED", x.count(7), 8);
        Sand.due("mixed: HURT 9", x.fighter(1, 5), 9);
        Sand.due("mixed: can fight", x.would(0, 4) >= 0, true);
        Sand.due("mixed: PURSE", x.purse(0), 38);
        Sand.due("mixed: to be undone", x.count(11), 6);
    }

    // ---- 7, 8, 9

    private static void fighterAndSeat() {
        int[] none = {-1, Sand.MIXED_FIGHTERS, 8, LEAST, MOST};
        for (int i : none) {
            Sand.refusedByThrow("7: FIGHTER " + i, x -> x.fighter(i, 0));
        }
        int[] noWhat = {-1, 9, 10, LEAST, MOST};
        for (int what : noWhat) {
            Sand.refusedByThrow("7: what " + what, x -> x.fighter(0, what));
        }
        int[] noSeat = {-1, 2, 8, LEAST, MOST};
        for (int i : noSeat) {
            Sand.refusedByThrow("8: SEAT " + i, x -> x.seat(i, 0));
        }
        int[] noSeatWhat = {-1, 3, LEAST, MOST};
        for (int what : noSeatWhat) {
            Sand.refusedByThrow("8: what " + what, x -> x.seat(0, what));
        }
        ByTheThumbs x = Sand.mixed();
        int[] one = {0, 9, 1, 0, 47, 0, 3, 3, 0};
        int[] hurt = {1, 1, 1, 0, 32, 9, 3, 0, 0};
        int[] dead = {2, 1, 1, 0, 6, 3, 1, 0, 1};
        int[] freed = {3, 1, 1, 0, 30, 0, 0, 0, 2};
        for (int what = 0; what <= 8; what++) {
            Sand.due("7: the first FIGHTER's " + what, x.fighter(0, what), one[what]);
            Sand.due("7: what " + what + " of HURT 9", x.fighter(1, what), hurt[what]);
            Sand.due("7: what " + what + " of the DEAD", x.fighter(2, what), dead[what]);
            Sand.due("7: what " + what + " of the FREED", x.fighter(3, what), freed[what]);
        }
        Sand.due("7: the last FIGHTER", x.fighter(4, 1), 9);
        Sand.due("8: the last SEAT, the last what", x.seat(1, 2), 1);
        Sand.due("8: the first SEAT, the first what", x.seat(0, 0), 9);
        Sand.question("7: it changes nothing", y -> y.fighter(0, 8));
        Sand.question("8: it changes nothing", y -> y.seat(0, 2));
        ByTheThumbs full = Sand.world(Sand.EIGHT, Sand.times(8, ";7,8,9").substring(1));
        Sand.due("7: FIGHTER 7", full.fighter(7, 0), 3);
        Sand.due("7: no FIGHTER 8", Sand.isThrown(y -> y.fighter(8, 0), full), true);
        Sand.due("8: SEAT 7", full.seat(7, 1), 8);
        Sand.due("8: no SEAT 8", Sand.isThrown(y -> y.seat(8, 0), full), true);
    }

    private static void purse() {
        for (int owner : new int[] {-1, 4, LEAST, MOST}) {
            Sand.refused("9: OWNER " + owner, x -> x.purse(owner), -1);
        }
        ByTheThumbs x = two("n92030", "n13330");
        x.fight(0, 1);
        Sand.due("9: the first OWNER", x.purse(0), 2);
        Sand.due("9: no FIGHTERS, nothing", x.purse(1), 0);
        Sand.due("9: no FIGHTERS, nothing", x.purse(2), 0);
        Sand.due("9: the last OWNER", x.purse(3), 3);
    }

    // ---- 10: strength

    private static void strengthNames() {
        int[][] none = {{0, 0}, {4, 4}, {-1, 0}, {0, -1}, {5, 0}, {0, 5}, {-1, -1}, {LEAST, 0}, {0, MOST}};
        for (int[] pair : none) {
            Sand.refusedByThrow("10: strength(" + pair[0] + ", " + pair[1] + ")", x -> x.strength(pair[0], pair[1]));
        }
        ByTheThumbs x = Sand.mixed();
        Sand.due("10: the first and the last", x.strength(0, 4), 93);
        Sand.due("10: the last and the first", x.strength(4, 0), 91);
        Sand.due("10: of HURT 9", x.strength(1, 0), 10 - 45);
        Sand.due("10: of the DEAD", x.strength(2, 3), 10 - 15);
        Sand.question("10: it changes nothing", y -> y.strength(0, 1));
    }

    private static int strengthBy(String rule) {
        ByTheThumbs x = two("n51000", "l31000");
        Sand.due("10: " + rule, Sand.rule(x, rule), 0);
        return x.strength(0, 1);
    }

    private static void strengthThings() {
        for (int favour : new int[] {0, 9, 10, 19, 20, 89, 90, 99}) {
            ByTheThumbs x = two("n510" + favour, "l31055");
            Sand.rule(x, "l");
            Sand.due("10: l of FAVOUR " + favour, x.strength(0, 1), favour / 10);
        }
        ByTheThumbs x = two("n91000", "l31000");
        Sand.rule(x, "d");
        for (int day = 1; day <= 17; day++) {
            x.days(1);
            Sand.due("10: d of DAY " + day, x.strength(0, 1), day % 8);
        }
        ByTheThumbs y = two("s91000", "l31000");
        Sand.games(y, "f01f01f01");
        Sand.rule(y, "h*100+f*10+w");
        Sand.due("10: HURT 9, FOUGHT 3, WON 0", y.strength(1, 0), 930);
        Sand.due("10: HURT 0, FOUGHT 3, WON 3", y.strength(0, 1), 33);
        Sand.rule(y, "a*100+e*10+s");
        Sand.due("10: ARMS, ARMS of the other one", y.strength(1, 0), 313);
        Sand.due("10: ARMS, ARMS of the other one", y.strength(0, 1), 139);
        Sand.due("10: a NUMBER of one digit", strengthBy("0"), 0);
        Sand.due("10: a NUMBER of two digits", strengthBy("10"), 10);
        Sand.due("10: a NUMBER of three digits", strengthBy("999"), 999);
        Sand.due("10: a NUMBER with 0 ahead", strengthBy("007"), 7);
    }

    private static void strengthReckoning() {
        Sand.due("10: by 0: 0", strengthBy("999/0"), 0);
        Sand.due("10: by 0: 0, below 0", strengthBy("-9/0"), 0);
        Sand.due("10: by 0, then more", strengthBy("9/0*5+7"), 7);
        Sand.due("10: by what is 0", strengthBy("7/(s-5)"), 0);
        Sand.due("10: 0 by something", strengthBy("0/7"), 0);
        Sand.due("10: cut to 0 from above", strengthBy("(0-7)/2"), -3);
        Sand.due("10: cut to 0 by less than 0", strengthBy("7/-2"), -3);
        Sand.due("10: cut to 0 of both", strengthBy("-7/-2"), 3);
        Sand.due("10: cut to 0 of less than 1", strengthBy("-1/2"), 0);
        Sand.due("10: / and * from the left", strengthBy("7/2*2"), 6);
        Sand.due("10: * and / from the left", strengthBy("7*2/4"), 3);
        Sand.due("10: - from the left", strengthBy("1-2-3+4"), 0);
        Sand.due("10: * ahead of -", strengthBy("1-2*3"), -5);
        Sand.due("10: - ahead of a thing ahead of *", strengthBy("-2*-3-4"), 2);
        Sand.due("10: - behind -", strengthBy("1--2"), 3);
        Sand.due("10: - behind - behind -", strengthBy("1---2"), -1);
        Sand.due("10: < of like ones", strengthBy("5<s"), 0);
        Sand.due("10: < of the next", strengthBy("4<s"), 1);
        Sand.due("10: > of like ones", strengthBy("s>5"), 0);
        Sand.due("10: > of the next", strengthBy("s>4"), 1);
        Sand.due("10: = of like ones", strengthBy("s=5"), 1);
        Sand.due("10: = of the next", strengthBy("s=6"), 0);
        Sand.due("10: < binds less than -", strengthBy("1-1<0-1"), 0);
        Sand.due("10: < of less than 0", strengthBy("-2<-1"), 1);
        Sand.due("10: the greatest int", strengthBy("128*256*256*256-1"), MOST);
        Sand.due("10: one more wraps", strengthBy("128*256*256*256-1+1"), LEAST);
        Sand.due("10: one less than the least wraps", strengthBy("-(128*256*256*256)-1"), MOST);
        Sand.due("10: - ahead of the least", strengthBy("-(128*256*256*256)"), LEAST);
        Sand.due("10: the least by -1", strengthBy("128*256*256*256/-1"), LEAST);
        Sand.due("10: a product wraps to 0", strengthBy("256*256*256*256"), 0);
        Sand.due("10: ints, not longs, are compared", strengthBy("128*256*256*256<0"), 1);
    }

    /** Of a longer RULE, or a refused one, or a law, nothing is left behind a shorter one. */
    private static void strengthByShorterRules() {
        String[] longer = {"-s", "1-s", "s*9", "-(s+h-w)*7", "s<9", "-s-"};
        for (String before : longer) {
            for (String between : new String[] {"", "-s", "7"}) {
                ByTheThumbs x = two("n51000", "l31000");
                Sand.rule(x, before);
                Sand.rule(x, between);
                Sand.law(x, before);
                Sand.due("10: s behind " + before, Sand.rule(x, "s"), 0);
                Sand.due("10: s behind " + before, x.strength(0, 1), 5);
                Sand.due("10: 8 behind it", Sand.rule(x, "8"), 0);
                Sand.due("10: 8 behind it", x.strength(0, 1), 8);
                Sand.due("10: -s behind it", Sand.rule(x, "-s"), 0);
                Sand.due("10: -s behind it", x.strength(0, 1), -5);
            }
        }
    }

    // ---- 11: set

    private static void set() {
        int[][] bad = {{0, 0}, {0, 10}, {0, -1}, {0, LEAST}, {0, MOST}, {1, -1}, {1, 10000}, {1, LEAST}, {1, MOST},
            {2, 5}, {-1, 5}, {LEAST, 1}, {MOST, 1}};
        for (int[] b : bad) {
            Sand.refused("11: set(" + b[0] + ", " + b[1] + ")", x -> x.set(b[0], b[1]), -1);
        }
        ByTheThumbs x = new ByTheThumbs();
        int was = 5;
        for (int v = 1; v <= 9; v++) {
            Sand.due("11: SWORD was", x.set(0, v), was);
            Sand.due("11: SWORD is", x.count(2), v);
            was = v;
        }
        was = 1000;
        for (int v : new int[] {0, 1, 9998, 9999, 0, 9999}) {
            Sand.due("11: MEANS were", x.set(1, v), was);
            Sand.due("11: MEANS are", x.count(3), v);
            was = v;
        }
        Sand.due("11: SWORD stays then", x.count(2), 9);
        Sand.due("11: nothing of it is undone", x.count(11), 0);
    }

    private static void setSword() {
        ByTheThumbs x = two("n91030", "s11030");
        Sand.games(x, "f01f01");
        x.set(0, 2);
        Sand.due("11: SWORD itself frees nobody", x.count(7), 0);
        x.set(0, 1);
        Sand.due("11: SWORD below what they FOUGHT frees nobody", x.count(7), 0);
        x.fight(0, 1);
        Sand.due("11: FOUGHT SWORD times or more: FREED by the next FIGHT", x.count(7), 3);
        x.set(0, 9);
        Sand.due("11: FREED stays so", x.count(7), 3);
    }

    // ---- 12: sheet

    private static void sheetRanges() {
        for (int n = 0; n <= 8; n++) {
            for (int kind = 0; kind <= 2; kind++) {
                ByTheThumbs x = Sand.world(Sand.EIGHT, "");
                x.sheet(2, 8, 77, 0);
                String what = "12: kind " + kind + ", n " + n;
                Sand.due(what, x.sheet(kind, n, 5, 1), 5 * n + n * (n - 1) / 2);
                for (int i = 0; i < 8; i++) {
                    Sand.due(what + ": FAVOUR of " + i + " (those behind it have 0)", x.fighter(i, 4), i < n ? 5 + i : 0);
                }
            }
        }
        ByTheThumbs none = new ByTheThumbs();
        Sand.due("12: no FIGHTERS", none.sheet(2, 8, 5, 5), 0);
        Sand.due("12: no FIGHTERS, a missing one", none.sheet(3, 8, 5, 5), -3);
        ByTheThumbs x = Sand.mixed();
        Sand.due("12: more entries than FIGHTERS: the sum of all FAVOUR", x.sheet(0, 8, 9, 0), 45);
        Sand.due("12: of the DEAD too", x.fighter(2, 4), 9);
        Sand.due("12: of the FREED too", x.fighter(3, 4), 9);
        Sand.due("12: nothing of it is undone", x.count(11), 6);
        Sand.row("12: the ROW stays", x, 3, 4);
        Sand.fighters(x, "n11012");
        Sand.due("12: one who comes behind has his own", x.fighter(5, 4), 12);
    }

    private static int entry(int kind, int f) {
        ByTheThumbs x = Sand.world("n11050;s11050", "");
        int sum = x.sheet(kind, 1, f, 1);
        Sand.due("12: kind " + kind + ", entry " + f + ": the sum is FAVOUR", x.fighter(0, 4), sum);
        return sum;
    }

    private static void sheetEntries() {
        int[] entries = {0, -1, 1, 98, 99, 100, 127, 128, -128, -129, -157, 255, 256, 257, 355, 383, 384, 32767, 32768, -32768, -32769,
            65535, 65536, 65537, 65635, 65636, MOST, LEAST};
        for (int f : entries) {
            Sand.due("12: ints, " + f, entry(2, f), f < 0 ? 0 : Math.min(f, 99));
        }
        int[][] bytes = {{0, 0}, {-1, 0}, {99, 99}, {100, 99}, {127, 99}, {128, 0}, {-128, 0}, {-129, 99}, {-157, 99}, {-158, 98}, {255, 0},
            {256, 0}, {257, 1}, {355, 99}, {383, 99}, {384, 0}, {65536 + 7, 7}, {MOST, 0}, {LEAST, 0}, {LEAST + 7, 7}};
        for (int[] b : bytes) {
            Sand.due("12: bytes, " + b[0], entry(0, b[0]), b[1]);
        }
        int[][] shorts = {{0, 0}, {-1, 0}, {99, 99}, {100, 99}, {128, 99}, {255, 99}, {256, 99}, {32767, 99}, {32768, 0}, {-32768, 0},
            {-32769, 99}, {65535, 0}, {65536, 0}, {65536 + 7, 7}, {-65536 + 98, 98}, {MOST, 0}, {LEAST, 0}, {LEAST + 7, 7}};
        for (int[] s : shorts) {
            Sand.due("12: shorts, " + s[0], entry(1, s[0]), s[1]);
        }
        ByTheThumbs x = Sand.world("n11050;s11050;p11050", "");
        Sand.due("12: f + step wraps", x.sheet(2, 3, MOST, 1), 99);
        Sand.due("12: the wrapped one is below 0", x.fighter(1, 4), 0);
        Sand.due("12: f + step + step wraps", x.sheet(2, 3, 5, LEAST), 10);
        Sand.due("12: twice the least is 0", x.fighter(2, 4), 5);
        Sand.due("12: steps below 0", x.sheet(2, 3, 99, -49), 99 + 50 + 1);
        Sand.due("12: bytes wrap by steps", x.sheet(0, 3, 120, 8), 99);
        Sand.due("12: shorts wrap by steps", x.sheet(1, 3, 50, 32768), 100);
    }

    private static void sheetRefusals() {
        int[][] bad = {{-1, 1}, {4, 1}, {LEAST, 0}, {MOST, 0}, {0, 9}, {1, 9}, {2, 9}, {3, 9}, {2, MOST}, {3, MOST}, {4, -1}, {-1, -1}, {4, 9}};
        for (int[] b : bad) {
            Sand.refused("12: sheet(" + b[0] + ", " + b[1] + ", ..): these first", x -> x.sheet(b[0], b[1], 5, 5), -1);
        }
        for (int kind = 0; kind <= 2; kind++) {
            int k = kind;
            Sand.refused("12: n -1 of kind " + k, x -> x.sheet(k, -1, 5, 5), -2);
            Sand.refused("12: the least n of kind " + k, x -> x.sheet(k, LEAST, 5, 5), -2);
        }
        for (int n : new int[] {LEAST, -1, 0, 1, 8}) {
            ByTheThumbs x = Sand.mixed();
            Sand.due("12: missing, n " + n, x.sheet(3, n, 5, 5), -3);
            for (int i = 0; i < Sand.MIXED_FIGHTERS; i++) {
                Sand.due("12: missing: all 0", x.fighter(i, 4), 0);
            }
        }
    }

    // ---- 13: fight

    private static void fightRefusals() {
        int[][] none = {{0, 0}, {1, 1}, {2, 2}, {0, 5}, {5, 0}, {-1, 0}, {0, -1}, {2, 5}, {5, 2}, {1, -1}, {LEAST, 0}, {0, MOST}, {8, 8}};
        for (int[] p : none) {
            Sand.refused("13: none such, like ones: fight(" + p[0] + ", " + p[1] + ")", x -> x.fight(p[0], p[1]), -1);
            Sand.refused("23: as fight(): would(" + p[0] + ", " + p[1] + ")", x -> x.would(p[0], p[1]), -1);
        }
        int[][] away = {{0, 2}, {2, 0}, {0, 3}, {3, 0}, {2, 3}, {3, 2}, {1, 2}, {2, 1}, {1, 3}, {3, 1}};
        for (int[] p : away) {
            Sand.refused("13: not HERE: fight(" + p[0] + ", " + p[1] + ")", x -> x.fight(p[0], p[1]), -2);
            Sand.refused("23: as fight(): would(" + p[0] + ", " + p[1] + ")", x -> x.would(p[0], p[1]), -2);
        }
        int[][] hurt = {{0, 1}, {1, 0}, {4, 1}, {1, 4}};
        for (int[] p : hurt) {
            Sand.refused("13: HURT 9: fight(" + p[0] + ", " + p[1] + ")", x -> x.fight(p[0], p[1]), -3);
            Sand.refused("23: as fight(): would(" + p[0] + ", " + p[1] + ")", x -> x.would(p[0], p[1]), -3);
        }
    }

    private static void fightHire() {
        for (int means = 0; means <= 8; means++) {
            ByTheThumbs x = two("n93130", "s14230");
            x.set(1, means);
            x.fight(1, 0);
            String what = "13: MEANS " + means;
            Sand.due(what + ": the first's first", x.purse(2), Math.min(4, means));
            Sand.due(what + ": as much as he has yet", x.purse(1), Math.min(3, Math.max(0, means - 4)));
            Sand.row(what, x, 0, 36, 40, Math.max(0, means - 7));
            ByTheThumbs y = two("n93130", "s14230");
            y.set(1, means);
            y.fight(0, 1);
            Sand.due(what + ": the first's first", y.purse(1), Math.min(3, means));
            Sand.due(what + ": as much as he has yet", y.purse(2), Math.min(4, Math.max(0, means - 3)));
        }
        ByTheThumbs one = two("n99330", "s19330");
        one.set(1, 9999);
        one.fight(0, 1);
        Sand.due("13: HIRE 9 of both to one OWNER", one.purse(3), 18);
        Sand.due("13: MEANS then", one.count(3), 9981);
    }

    private static void fightStrength() {
        String[] rules = {"1", "s", "0-s", "d", "-5", "(s=5)*128*256*256*256"};
        for (String rule : rules) {
            ByTheThumbs x = two("n51030", "n51030");
            Sand.rule(x, rule);
            Sand.due("13: of like ones the first: " + rule, x.fight(1, 0), 1);
            Sand.row("13: " + rule, x, 0, 40, 36, 998);
            ByTheThumbs y = two("n51030", "n51030");
            Sand.rule(y, rule);
            Sand.due("13: of like ones the first: " + rule, y.fight(0, 1), 0);
        }
        ByTheThumbs more = two("n51030", "n61030");
        Sand.due("13: one more is enough, as the second", more.fight(0, 1), 1);
        Sand.due("13: one more is enough, as the first", more.fight(1, 0), 1);
        ByTheThumbs wide = two("n91030", "n11030");
        Sand.rule(wide, "(s=9)*2*-999*999*999+(s=1)*999*999*2");
        Sand.due("13: a difference beyond ints", wide.fight(0, 1), 1);
        Sand.due("13: a difference beyond ints", wide.fight(1, 0), 1);
    }

    private static int put(int favour) {
        return Math.max(0, Math.min(99, favour));
    }

    private static void fightFavour() {
        int[] edges = {0, 1, 2, 3, 88, 89, 90, 91, 92, 93, 94, 95, 96, 97, 98, 99};
        for (int winner : edges) {
            for (int loser : edges) {
                ByTheThumbs x = two("n91000", "s11000");
                x.sheet(2, 2, winner, loser - winner);
                x.fight(0, 1);
                String what = "13: FAVOUR " + winner + " and " + loser;
                Sand.row(what + ", not SEEN", x, 0, put(put(winner + 6) + 4), put(loser + 6), 998);
                x.sheet(2, 2, loser, winner - loser);
                x.fight(1, 0);
                Sand.row(what + ", SEEN", x, 0, put(winner - 2), put(put(loser - 2) + 4), 996);
            }
        }
        ByTheThumbs dead = Sand.world("n91000;s11000", "1,99,0");
        dead.sheet(2, 2, 98, -98);
        dead.fight(0, 1);
        Sand.row("13: the DEAD one's FAVOUR is told too", dead, 1, 99, 6, 948);
    }

    private static void fightSeen() {
        String arms = "nspl";
        for (int one = 0; one < 4; one++) {
            for (int other = 0; other < 4; other++) {
                String what = "13: " + arms.charAt(one) + " with " + arms.charAt(other);
                ByTheThumbs x = Sand.world("n91030;s91030;p91030;l91030;n11030;s11030;p11030;l11030", "");
                x.fight(one, 4 + other);
                Sand.due(what + ": SEEN", x.count(8), 1);
                x.sheet(2, 8, 30, 0);
                x.fight(4 + other, one);
                Sand.due(what + ": in either order", x.fighter(4 + other, 4), 28);
                Sand.due(what + ": SEEN once", x.count(8), 1);
                x.sheet(2, 8, 30, 0);
                x.days(9);
                x.fight(other, 4 + one);
                Sand.due(what + ": others with these ARMS", x.fighter(4 + one, 4), 28);
                Sand.due(what + ": SEEN once", x.count(8), 1);
            }
        }
        ByTheThumbs all = Sand.world("n91030;s91030;p91030;l91030;n11030;s11030;p11030;l11030", "");
        all.set(0, 9);
        int seen = 0;
        for (int one = 0; one < 4; one++) {
            for (int other = one; other < 4; other++) {
                all.sheet(2, 8, 30, 0);
                all.fight(one, 4 + other);
                all.days(9);
                seen++;
                Sand.due("13: new ARMS", all.fighter(4 + other, 4), 36);
                Sand.due("48: pairs of ARMS", all.count(8), seen);
            }
        }
        Sand.due("48: ten pairs are all", all.count(8), 10);
    }

    private static void fightHurt() {
        for (int rest = 0; rest <= 9; rest++) {
            ByTheThumbs x = two("n91030", "s11030");
            Sand.games(x, "f01f01f01");
            if (rest > 0) {
                x.days(rest);
            }
            int hurt = 9 - rest;
            Sand.due("13: HURT is", x.fighter(1, 5), hurt);
            Sand.due("13: HURT " + hurt + " as the second", x.fight(0, 1), hurt == 9 ? -3 : 0);
            Sand.due("13: 3 more, 9 at most", x.fighter(1, 5), Math.min(9, hurt + 3));
            Sand.due("13: the winner is not HURT", x.fighter(0, 5), 0);
            if (hurt < 9) {
                x.undo();
            }
            Sand.due("13: HURT " + hurt + " as the first", x.fight(1, 0), hurt == 9 ? -3 : 0);
        }
        ByTheThumbs y = two("n91030", "s11030");
        y.fight(0, 1);
        Sand.due("13: FOUGHT of the winner", y.fighter(0, 6), 1);
        Sand.due("13: FOUGHT of the loser", y.fighter(1, 6), 1);
        Sand.due("13: WON of the winner", y.fighter(0, 7), 1);
        Sand.due("13: WON of the loser", y.fighter(1, 7), 0);
    }

    private static void fightDeathByMeans() {
        for (int hire = 1; hire <= 9; hire++) {
            int hires = 2 + hire;
            for (int less = -1; less <= 1; less++) {
                ByTheThumbs x = Sand.world("n92130;s1" + hire + "210", "9,99,0");
                x.set(1, hires + 50 * hire - less);
                x.fight(0, 1);
                boolean dead = less <= 0;
                String what = "13: HIRE " + hire + ", MEANS then 50 times it less " + less;
                Sand.row(what, x, dead ? 1 : 0, 40, 16, dead ? -less : 50 * hire - less);
                Sand.due(what + ": DEAD", x.fighter(1, 8), dead ? 1 : 0);
                Sand.due(what + ": his OWNER has", x.purse(2), dead ? 51 * hire : hire);
                Sand.due(what + ": the winner's OWNER has", x.purse(1), 2);
            }
        }
    }

    private static void fightDeathByFavour() {
        for (int loser = 41; loser <= 57; loser++) {
            ByTheThumbs x = Sand.world("n92130;s12210", "9,50,0");
            x.sheet(2, 2, 0, loser);
            x.fight(0, 1);
            Sand.due("13: by his FAVOUR then, not SEEN, " + loser, x.row(0), loser + 6 >= 50 ? 0 : 1);
            ByTheThumbs y = Sand.world("n92130;s12210", "9,50,0");
            y.sheet(2, 2, 99, 0);
            y.fight(0, 1);
            y.sheet(2, 2, 0, loser);
            y.fight(0, 1);
            Sand.due("13: by his FAVOUR then, SEEN, " + loser, y.row(0), loser - 2 >= 50 ? 0 : 1);
        }
        ByTheThumbs winner = Sand.world("n92100;s12290", "9,50,0");
        winner.fight(0, 1);
        Sand.due("13: the winner is not asked about", winner.count(6), 0);
        ByTheThumbs nobody = Sand.world("n92100;s12200", "");
        nobody.fight(0, 1);
        Sand.due("13: none at all: SPARED", nobody.count(6), 0);
    }

    private static void fightSword() {
        for (int sword = 1; sword <= 9; sword++) {
            ByTheThumbs x = two("n91030", "s11030");
            x.set(0, sword);
            for (int fought = 1; fought <= sword; fought++) {
                x.fight(0, 1);
                x.days(3);
                String what = "13: SWORD " + sword + ", FOUGHT " + fought;
                Sand.due(what + ": FREED", x.count(7), fought == sword ? 3 : 0);
            }
            Sand.due("13: no more than SWORD", x.fight(0, 1), -2);
        }
        ByTheThumbs one = Sand.world("n91030;s11030;p11030", "");
        one.set(0, 2);
        one.fight(0, 1);
        one.fight(0, 2);
        Sand.due("13: each by himself", one.count(7), 1);
        ByTheThumbs dead = Sand.world("n91030;s11010", "9,50,0");
        dead.set(0, 1);
        dead.fight(0, 1);
        Sand.due("13: the DEAD one is not FREED", dead.fighter(1, 8), 1);
        Sand.due("13: the other one is", dead.fighter(0, 8), 2);
        Sand.due("13: the DEAD one has FOUGHT", dead.fighter(1, 6), 1);
    }

    /** Eight FIGHTERS of one OWNER, each with a count of his own in each thing. */
    private static void fightFull(int owner, boolean lesserWins) {
        ByTheThumbs x = new ByTheThumbs();
        for (int skill = 8; skill >= 1; skill--) {
            Sand.fighters(x, "n" + skill + "1" + owner + "0");
        }
        Sand.rule(x, lesserWins ? "s" : "0-s");
        x.set(0, 9);
        int[][] tally = new int[9][8];
        for (int one = 0; one < 8; one++) {
            for (int other = one + 1; other < 8; other++) {
                int winner = lesserWins ? one : other;
                int loser = one + other - winner;
                boolean can = tally[5][loser] < 9;
                Sand.due("13: " + one + " with " + other, x.fight(other, one), can ? winner : -3);
                tally[5][loser] = Math.min(9, tally[5][loser] + 3);
                tally[6][one] += can ? 1 : 0;
                tally[6][other] += can ? 1 : 0;
                tally[7][winner] += can ? 1 : 0;
            }
            // An object is used for 512 calls at most.
            if (one % 3 == 0) {
                dueFull("13: after " + one, x, tally);
            }
            x.days(2);
            for (int i = 0; i < 8; i++) {
                tally[5][i] = Math.max(0, tally[5][i] - 2);
            }
            if (one % 3 == 0) {
                dueFull("14: after " + one, x, tally);
            }
        }
        Sand.due("13: MEANS", x.count(3), 1000 - sum(tally[6]));
        for (int i = 0; i < 4; i++) {
            Sand.due("13: PURSE of " + i, x.purse(i), i == owner ? sum(tally[6]) : 0);
        }
        Sand.due("13: one pair of ARMS", x.count(8), 1);
        Sand.due("13: DAY", x.count(4), 16);
        Sand.due("13: all HERE", x.count(5), 255);
    }

    private static int sum(int[] numbers) {
        int sum = 0;
        for (int number : numbers) {
            sum += number;
        }
        return sum;
    }

    private static void dueFull(String what, ByTheThumbs x, int[][] tally) {
        for (int i = 0; i < 8; i++) {
            for (int thing = 5; thing <= 8; thing++) {
                Sand.due(what + ": " + thing + " of " + i, x.fighter(i, thing), tally[thing][i]);
            }
        }
    }

    /** FIGHTERS that come later are as at first, and those that were there stay as they are. */
    private static void newOnesCome() {
        for (int here = 2; here <= 7; here++) {
            ByTheThumbs x = new ByTheThumbs();
            Sand.fighters(x, Sand.EIGHT.substring(0, 7 * here - 1));
            Sand.rule(x, "1");
            for (int i = 0; i < here; i++) {
                x.fight(i, (i + 1) % here);
            }
            x.sheet(0, here, 40, 1);
            Sand.due("4: the others come", Sand.fighters(x, Sand.EIGHT.substring(7 * here).replace("1100", "1107")), 8 - here);
            for (int i = 0; i < 8; i++) {
                int[] want = i < here ? new int[] {40 + i, 3, 2, 1, 0} : new int[] {70, 0, 0, 0, 0};
                for (int what = 4; what <= 8; what++) {
                    Sand.due("4: of " + here + " and more, " + what + " of " + i, x.fighter(i, what), want[what - 4]);
                }
            }
            Sand.due("4: MEANS stay", x.count(3), 1000 - 2 * here);
            Sand.due("4: PURSES stay", x.purse(0), 2 * here);
        }
    }

    // ---- 14: days

    private static void daysRange() {
        for (int n : new int[] {0, 31, -1, LEAST, MOST}) {
            Sand.refused("14: days(" + n + ")", x -> x.days(n), -1);
        }
        ByTheThumbs x = new ByTheThumbs();
        int day = 0;
        for (int n = 1; n <= 30; n++) {
            day += n;
            Sand.due("14: days(" + n + ")", x.days(n), day);
        }
        Sand.due("14: DAY", x.count(4), day);
        Sand.row("14: no ROW", x);
        ByTheThumbs long1 = new ByTheThumbs();
        for (int i = 1; i <= 500; i++) {
            if (long1.days(30) != 30 * i) {
                Sand.due("14: DAY goes on", long1.count(4), 30 * i);
            }
        }
        Sand.due("14: DAY has no end", long1.count(4), 15000);
    }

    private static void daysHurt() {
        for (int n = 1; n <= 30; n++) {
            ByTheThumbs x = Sand.mixed();
            x.days(n);
            Sand.due("14: HURT 9 is " + n + " less, 0 at least", x.fighter(1, 5), Math.max(0, 9 - n));
            Sand.due("14: HURT 0 stays", x.fighter(0, 5), 0);
            Sand.due("14: the DEAD one's stays", x.fighter(2, 5), 3);
        }
        ByTheThumbs freed = two("n91030", "s11030");
        freed.set(0, 1);
        freed.fight(0, 1);
        freed.days(2);
        Sand.due("14: the FREED one's stays", freed.fighter(1, 5), 3);
    }

    // ---- 15, 16

    private static void song() {
        int[][] none = {{5, 1}, {-1, 1}, {LEAST, 1}, {MOST, 1}, {0, 0}, {0, 100}, {0, -1}, {0, LEAST}, {0, MOST}, {2, 0}, {2, 100}, {3, 100}};
        for (int[] s : none) {
            Sand.refused("15: song(" + s[0] + ", " + s[1] + ")", x -> x.song(s[0], s[1]), -1);
        }
        Sand.refused("15: DEAD", x -> x.song(2, 1), -2);
        Sand.refused("15: FREED", x -> x.song(3, 99), -2);
        for (int n = 1; n <= 99; n += 14) {
            int pays = n;
            Sand.refused("15: MEANS one too little for " + n, () -> poor(pays - 1), x -> x.song(0, pays), -3);
            Sand.refused("15: DEAD goes ahead of it", () -> poor(pays - 1), x -> x.song(2, pays), -2);
            Sand.due("15: MEANS are just enough", poor(n).song(0, n), 0);
            Sand.due("15: MEANS are one more", poor(n + 1).song(0, n), 1);
        }
        for (int favour = 93; favour <= 99; favour++) {
            ByTheThumbs x = two("n110" + favour, "s11000");
            Sand.due("15: n 1", x.song(0, 1), 999);
            Sand.due("15: 3 more, 99 at most", x.fighter(0, 4), Math.min(99, favour + 3));
            Sand.due("15: n 99", x.song(1, 99), 900);
            Sand.due("15: 3 more whatever n", x.fighter(1, 4), 3);
            Sand.due("15: nobody has it", x.purse(0), 0);
        }
        Sand.due("15: HURT 9 is HERE", Sand.mixed().song(1, 1) >= 0, true);
    }

    private static ByTheThumbs poor(int means) {
        ByTheThumbs x = Sand.mixed();
        x.set(1, means);
        return x;
    }

    private static void frees() {
        for (int i : new int[] {5, -1, LEAST, MOST}) {
            Sand.refused("16: frees(" + i + ")", x -> x.frees(i), -1);
        }
        Sand.refused("16: DEAD", x -> x.frees(2), -2);
        Sand.refused("16: FREED", x -> x.frees(3), -2);
        for (int hire = 1; hire <= 9; hire++) {
            for (int purse = 20 * hire - 1; purse <= 20 * hire + 1; purse++) {
                int p = purse;
                int h = hire;
                if (purse < 20 * hire) {
                    Sand.refused("16: one too little for HIRE " + h, () -> rich(h, p), x -> x.frees(0), -3);
                    continue;
                }
                ByTheThumbs x = rich(hire, purse);
                int means = x.count(3);
                Sand.due("16: HIRE " + hire + ", PURSE " + purse, x.frees(0), purse - 20 * hire);
                Sand.due("16: FREED", x.fighter(0, 8), 2);
                Sand.due("16: the PURSE then", x.purse(1), purse - 20 * hire);
                Sand.due("16: MEANS stay", x.count(3), means);
            }
        }
        Sand.due("16: HURT 9 is HERE", Sand.mixed().frees(1), 18);
    }

    /** A FIGHTER 0 of such HIRE, and just so much in his OWNER's PURSE, paid for FIGHTS of two others of his. */
    private static ByTheThumbs rich(int hire, int purse) {
        ByTheThumbs x = Sand.world("n9" + hire + "190;s19100;p19100;s19100;p19100", "");
        x.set(0, 9);
        for (int paid = 0; paid < purse; paid += 18) {
            x.set(1, Math.min(18, purse - paid));
            int one = paid % 36 == 0 ? 1 : 3;
            x.fight(one, one + 1);
            x.days(9);
        }
        x.set(1, 777);
        Sand.seats(x, "9,0,0");
        Sand.due("16: the PURSE is as wanted", x.purse(1), purse);
        return x;
    }

    // ---- 17: games

    private static void gamesStop() {
        String[] stops = {"f00", "f09", "f90", "f02", "f01", "s5", "s2", "b9", "b2", "b3"};
        for (String stop : stops) {
            for (int ahead = 0; ahead <= 2; ahead++) {
                ByTheThumbs x = Sand.mixed();
                String text = Sand.times(ahead, "s4") + stop + "s4d9";
                Sand.due("17: " + text, Sand.games(x, text), ahead);
                Sand.row("17: " + text + ": one could not be", x, 1, 0);
                Sand.due("17: " + text + ": what is behind is not done", x.count(4), 0);
                Sand.due("17: " + text + ": what is ahead is", x.fighter(4, 4), 40 + 3 * ahead);
                Sand.due("17: " + text + ": undone as one, if one was done", x.count(11), ahead == 0 ? 6 : 7);
                Sand.due("17: THE TEXT is emptied", x.count(13), 0);
            }
            Sand.question("17: " + stop + ", the first can't be: nothing is done", Sand::textless, x -> games(x, stop + "d1"));
        }
        ByTheThumbs last = Sand.mixed();
        Sand.due("17: the last can't be", Sand.games(last, "d1d2b2"), 2);
        Sand.row("17: the last can't be", last, 1, 0);
        ByTheThumbs poor = poor(9);
        Sand.due("17: song() by 5", Sand.games(poor, "s0s0"), 1);
        Sand.due("17: MEANS", poor.count(3), 4);
        ByTheThumbs dead = Sand.world("n91030;s11000;p11000;l11000", "9,99,0");
        Sand.due("17: all can be", Sand.games(dead, "f01f02f03"), 3);
        Sand.row("17: how many are DEAD", dead, 0, 3);
        ByTheThumbs again = Sand.world("n91030;s11000;p11000;l11000", "9,99,0");
        again.fight(0, 1);
        Sand.due("17: the DEAD of before do not count", Sand.games(again, "f02f01"), 1);
        Sand.row("17: the DEAD of before do not count", again, 1, 1);
        Sand.due("17: undone at once", again.undo(), 1);
        Sand.due("17: HERE again", again.count(5), 13);
    }

    private static int games(ByTheThumbs x, String text) {
        int answer = Sand.games(x, text);
        x.end(0);
        return answer;
    }

    // ---- 18: undo

    private static void undoRing() {
        for (int done = 0; done <= 40; done++) {
            ByTheThumbs x = new ByTheThumbs();
            for (int i = 0; i < done; i++) {
                x.days(1);
            }
            int kept = Math.min(12, done);
            Sand.due("18: of 12 that are kept", x.count(11), kept);
            for (int left = kept - 1; left >= 0; left--) {
                Sand.due("18: how many are left", x.undo(), left);
                Sand.due("18: DAY", x.count(4), done - kept + left);
            }
            Sand.due("18: none", x.undo(), -1);
            Sand.due("18: DAY stays", x.count(4), done - kept);
        }
        ByTheThumbs x = new ByTheThumbs();
        int[] days = new int[200];
        int high = 0;
        int low = 0;
        for (int i = 0; i < 100; i++) {
            if (i % 17 < 12) {
                days[high] = x.count(4);
                high++;
                low = Math.max(low, high - 12);
                x.days(1 + i % 5);
            } else if (high > low) {
                high--;
                Sand.due("18: some undone, some done", x.undo(), high - low);
                Sand.due("18: DAY", x.count(4), days[high]);
            }
        }
        Sand.refused("18: none", ByTheThumbs::new, y -> y.undo(), -1);
    }

    private static void undoWhat() {
        Sand.Call[] doings = {x -> x.fight(0, 4), x -> x.days(1), x -> x.song(0, 1), x -> x.frees(0), x -> games(x, "f04d1s0b0")};
        for (int i = 0; i < doings.length; i++) {
            Sand.Call doing = doings[i];
            Sand.due("18: doing " + i + " can be undone", done(doing).count(11), 7);
            Sand.question("18: doing " + i + ", undone", Sand::textless, x -> doing.on(x) * 0 + x.undo());
        }
        Sand.Call[] others = {x -> x.set(0, 3), x -> x.set(1, 3), x -> x.sheet(0, 8, 1, 1), x -> x.score(0, 3), x -> x.wash(), x -> x.heard(0, 0),
            x -> x.forget(), x -> x.keep(0) ? 1 : 0, x -> x.years(5, 60), x -> x.career(0, 1), x -> x.rule(), x -> x.law()};
        for (int i = 0; i < others.length; i++) {
            Sand.due("18: other " + i + " can't be", done(others[i]).count(11), 6);
        }
        ByTheThumbs x = Sand.mixed();
        x.set(0, 3);
        x.set(1, 4444);
        x.sheet(3, 0, 0, 0);
        x.score(1, 3);
        x.heard(0, 0);
        Sand.rule(x, "7");
        Sand.due("18: undone", x.undo(), 5);
        Sand.due("18: SWORD is not", x.count(2), 3);
        Sand.due("18: MEANS are as ahead of it", x.count(3), 942);
        Sand.due("18: FAVOUR is as ahead of it", x.fighter(0, 4), 44);
        Sand.due("18: scores are not", x.count(9), 3);
        Sand.due("18: what was heard is not", x.count(10), 2);
        Sand.due("18: THE RULE is not", x.strength(0, 1), 7);
        Sand.row("18: the ROW is not", x, 3, 4);
    }

    /** 0 is no refusal: MEANS, a PURSE or the number of who wins. */
    private static void undoWhatAnswersNothing() {
        ByTheThumbs sung = poor(5);
        Sand.due("18: song() that leaves nothing", sung.song(0, 5), 0);
        Sand.due("18: it can be undone", sung.undo(), 6);
        Sand.due("18: MEANS", sung.count(3), 5);
        Sand.due("17: an ACT that answers 0 is done", Sand.games(sung, "s0"), 1);
        Sand.row("17: an ACT that answers 0 is done", sung, 0, 0);
        ByTheThumbs freed = rich(3, 60);
        Sand.due("18: frees() that leaves nothing", freed.frees(0), 0);
        Sand.due("18: it can be undone", freed.undo(), 0);
        Sand.due("18: PURSE", freed.purse(1), 60);
        Sand.due("17: an ACT that answers 0 is done", Sand.games(freed, "b0"), 1);
        ByTheThumbs fought = two("n91000", "s11000");
        Sand.due("18: fight() that 0 wins", fought.fight(0, 1), 0);
        Sand.due("18: it can be undone", fought.undo(), 0);
    }

    private static ByTheThumbs done(Sand.Call doing) {
        ByTheThumbs x = Sand.textless();
        doing.on(x);
        return x;
    }

    private static void undoForgets() {
        Sand.Call[] forgetting = {x -> Sand.fighters(x, "n11000"), x -> Sand.seats(x, "1,1,1"), x -> x.again(0) ? 1 : 0, x -> x.again(1) ? 1 : 0};
        for (int i = 0; i < forgetting.length; i++) {
            ByTheThumbs x = done(forgetting[i]);
            Sand.due("18: forgotten by " + i, x.count(11), 0);
            Sand.due("18: forgotten by " + i, x.undo(), -1);
            Sand.due("18: then one more", x.days(1) > 0 && x.undo() == 0, true);
        }
        Sand.Call[] not = {x -> Sand.fighters(x, ""), x -> Sand.seats(x, ""), x -> Sand.fighters(x, "x"), x -> Sand.seats(x, "x"),
            x -> x.again(2) ? 1 : 0, x -> x.again(-1) ? 1 : 0, x -> x.keep(1) ? 1 : 0};
        for (int i = 0; i < not.length; i++) {
            Sand.due("18: not forgotten by " + i, done(not[i]).count(11), 6);
        }
        ByTheThumbs unkept = new ByTheThumbs();
        unkept.days(1);
        Sand.due("18: nothing kept", unkept.again(0), false);
        Sand.due("18: not forgotten", unkept.undo(), 0);
    }

    /** An object is used for at most 512 calls: the last of them answers as the first does. */
    private static void lastCalls() {
        ByTheThumbs x = new ByTheThumbs();
        for (int i = 1; i <= 510; i++) {
            x.days(1);
        }
        Sand.due("the 511th call", x.undo(), 11);
        Sand.due("the 512th call", x.count(4), 509);
    }
}
