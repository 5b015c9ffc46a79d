/** Promises 19 to 30: the crowd and pairs, at the edges that the document names. */
public final class CrowdEdgesTest {
    private static final int LEAST = Integer.MIN_VALUE;
    private static final int MOST = Integer.MAX_VALUE;
    private static final int[] NOBODY = {-1, Sand.MIXED_FIGHTERS, 8, LEAST, MOST};

    public static void main(String[] args) {
        thumbsByFavour();
        thumbsByOthers();
        thumbsHalf();
        mercy();
        claque();
        tips();
        would();
        beats();
        cardRange();
        cardChoice();
        even();
        careerRange();
        careerEnds();
        careerChoice();
        swordRange();
        swordEnds();
        worth();
        hiresRange();
        hiresChoice();
        Sand.finish();
    }

    private static ByTheThumbs seated(int favour, String seats) {
        return Sand.world("n110" + favour, seats);
    }

    // ---- 19: thumbs

    private static void thumbsByFavour() {
        for (int picky : new int[] {0, 1, 50, 98, 99}) {
            for (int favour = Math.max(0, picky - 1); favour <= Math.min(99, picky + 1); favour++) {
                ByTheThumbs x = seated(favour, "7," + picky + ",0");
                boolean up = favour >= picky;
                Sand.due("19: FAVOUR " + favour + ", PICKY " + picky, x.thumbs(0), up ? 1 : 0);
                Sand.row("19: FAVOUR " + favour + ", PICKY " + picky, x, up ? 7 : 0, up ? 1 : 0);
            }
        }
        for (int i : NOBODY) {
            Sand.refused("19: thumbs(" + i + ")", x -> x.thumbs(i), -1);
        }
        ByTheThumbs x = Sand.mixed();
        Sand.due("19: of the last FIGHTER", x.thumbs(4), 3);
        Sand.row("19: of the last FIGHTER", x, 12, 1);
        Sand.due("19: of the DEAD", x.thumbs(2), 0);
        Sand.row("19: of the DEAD", x, 0, 0);
        Sand.due("19: of the FREED", x.thumbs(3), 3);
        Sand.question("19: it changes nothing", y -> y.thumbs(0));
        ByTheThumbs empty = seated(0, "");
        Sand.due("19: none at all", empty.thumbs(0), 0);
        Sand.row("19: none at all: SPARED", empty, 0, 1);
        Sand.due("19: no FIGHTERS", Sand.world("", "1,1,1").thumbs(0), -1);
    }

    private static void thumbsByOthers() {
        for (int likers = 0; likers <= 7; likers++) {
            for (int follows = 0; follows <= 9; follows++) {
                String liking = Sand.times(likers, ";1,0,0");
                boolean up = follows != 0 && likers >= follows;
                String what = "19: FOLLOWS " + follows + ", others up " + likers;
                ByTheThumbs last = seated(0, ("9,99," + follows + liking));
                Sand.due(what, last.thumbs(0), 2 * ((1 << likers) - 1) + (up ? 1 : 0));
                ByTheThumbs first = seated(0, (liking + ";9,99," + follows).substring(1));
                Sand.due(what, first.thumbs(0), (1 << likers) - 1 + (up ? 1 << likers : 0));
            }
        }
        StringBuilder rising = new StringBuilder("1,0,0");
        StringBuilder falling = new StringBuilder("1,0,0");
        for (int i = 1; i <= 7; i++) {
            rising.append(";1,99,").append(i);
            falling.insert(0, "1,99," + i + ";");
        }
        Sand.due("19: again and again, each by the one ahead", seated(0, rising.toString()).thumbs(0), 255);
        Sand.due("19: again and again, each by the one behind", seated(0, falling.toString()).thumbs(0), 255);
        Sand.due("19: till one wants more than are up", seated(0, "1,0,0;1,99,1;1,99,3;1,99,4;1,99,5").thumbs(0), 3);
        Sand.due("19: other SEATS, not itself", seated(0, "1,99,1").thumbs(0), 0);
        Sand.due("19: two do not lift each other", seated(0, "1,99,1;1,99,1").thumbs(0), 0);
        Sand.due("19: eight up by FAVOUR", seated(99, Sand.times(8, ";1,99,9").substring(1)).thumbs(0), 255);
        Sand.due("19: FOLLOWS 8 is never met", seated(0, Sand.times(7, "1,0,0;") + "1,1,8").thumbs(0), 127);
        Sand.due("19: up by FAVOUR, whatever it FOLLOWS", seated(50, "1,50,9").thumbs(0), 1);
    }

    private static void thumbsHalf() {
        int[][] people = {{1, 1, 1}, {50, 50, 1}, {49, 50, 0}, {50, 49, 1}, {1, 2, 0}, {2, 1, 1}, {99, 99, 1}, {98, 99, 0}, {1, 99, 0}};
        for (int[] p : people) {
            ByTheThumbs x = seated(10, p[0] + ",10,0;" + p[1] + ",11,0");
            Sand.due("19: one of two is up", x.thumbs(0), 1);
            Sand.row("19: " + p[0] + " of " + p[0] + " and " + p[1], x, p[0], p[2]);
        }
        ByTheThumbs most = seated(10, Sand.times(8, ";99,10,0").substring(1));
        most.thumbs(0);
        Sand.row("19: as many as can be", most, 792, 1);
        ByTheThumbs four = seated(10, Sand.times(4, "99,10,0;") + Sand.times(4, ";99,11,0").substring(1));
        four.thumbs(0);
        Sand.row("19: half of as many as can be", four, 396, 1);
    }

    // ---- 20: mercy

    private static void mercy() {
        for (int picky = 0; picky <= 99; picky++) {
            Sand.due("20: one SEAT, PICKY " + picky, Sand.world("", "1," + picky + ",0").mercy(), picky);
        }
        Sand.due("20: no SEATS", new ByTheThumbs().mercy(), 0);
        Sand.due("20: just half", Sand.world("", "5,10,0;5,90,0").mercy(), 10);
        Sand.due("20: one less than half", Sand.world("", "5,10,0;6,90,0").mercy(), 90);
        Sand.due("20: half, by one that follows", Sand.world("", "5,10,0;6,90,1").mercy(), 10);
        Sand.due("20: eight at 99: all are up with 99, so that one is always SPARED",
            Sand.world("", Sand.times(8, ";99,99,9").substring(1)).mercy(), 99);
        Sand.refused("20: it tells no ROW and changes nothing", x -> x.mercy(), 20);
        ByTheThumbs x = Sand.world("", "1,50,0");
        Sand.seats(x, "9,70,0");
        Sand.due("20: more SEATS came", x.mercy(), 70);
        Sand.seats(x, "99,3,0");
        Sand.due("20: more SEATS came", x.mercy(), 3);
        ByTheThumbs none = Sand.world("n11000", "1,50,0");
        Sand.due("20: not SPARED with 0", none.worth(0), 50);
        Sand.seats(none, "9,0,0");
        Sand.due("20: SPARED with 0, since more SEATS came", none.mercy(), 0);
        Sand.due("20: SPARED with 0, since more SEATS came", none.worth(0), 20);
    }

    // ---- 21: claque

    private static void claque() {
        for (int i : NOBODY) {
            Sand.refused("21: claque(" + i + ")", x -> x.claque(i), -1);
        }
        claqueOf("SPARED already", seated(20, "5,20,0;5,21,0"), 0);
        claqueOf("none at all", seated(0, ""), 0);
        claqueOf("one SEAT", seated(0, "1,1,0"), 1);
        claqueOf("half of eight", seated(0, Sand.times(8, ";1,1,0").substring(1)), 15);
        claqueOf("half of seven is not enough with three", seated(0, Sand.times(7, ";1,1,0").substring(1)), 15);
        claqueOf("half of six", seated(0, Sand.times(6, ";1,1,0").substring(1)), 7);
        claqueOf("the last alone", seated(0, Sand.times(7, "1,1,0;") + "7,1,0"), 128);
        claqueOf("the last alone is one too few", seated(0, Sand.times(7, "1,1,0;") + "6,1,0"), 129);
        claqueOf("of as few the least", seated(0, "1,1,0;5,1,0;5,1,0;1,1,0"), 3);
        claqueOf("of like ones the first", seated(0, "5,1,0;5,1,0"), 1);
        claqueOf("one up already", seated(10, "2,10,0;1,11,0;1,11,0;1,11,0"), 2);
        claqueOf("others follow the one who is won over", seated(0, "1,99,0;1,99,1;1,99,2;1,99,3;1,99,4;1,99,5;1,99,6;9,99,7"), 1);
        claqueOf("one less follows", seated(0, "1,99,0;1,99,1;1,99,3;9,99,4"), 8);
        claqueOf("up whatever comes", seated(0, "9,99,9;1,99,1"), 1);
        Sand.question("21: it changes nothing", x -> x.claque(2));
    }

    private static void claqueOf(String what, ByTheThumbs x, int bits) {
        Sand.due("21: " + what, x.claque(0), Integer.bitCount(bits));
        Sand.row("21: " + what, x, bits);
    }

    // ---- 22: tips

    private static void tips() {
        for (int i : NOBODY) {
            Sand.refused("22: tips(" + i + ")", x -> x.tips(i), -1);
        }
        tipsOf("none at all", seated(0, ""), 0);
        tipsOf("one SEAT, up: none at all is SPARED too", seated(5, "5,5,0"), 0);
        tipsOf("one SEAT, not up: none at all is SPARED", seated(4, "5,5,0"), 1);
        tipsOf("just half: the one that is up", seated(5, "5,5,0;5,6,0"), 1);
        tipsOf("one less than half: the one that is not up", seated(5, "5,5,0;6,6,0"), 2);
        tipsOf("one less than half: the first that is not up", seated(5, "6,6,0;5,5,0"), 1);
        tipsOf("two more than half still", seated(5, "6,5,0;1,5,0;5,6,0"), 1);
        tipsOf("it becomes just half", seated(5, "5,5,0;1,5,0;5,6,0"), 1);
        tipsOf("it becomes one less than half", seated(5, "5,5,0;1,5,0;6,6,0"), 3);
        tipsOf("without the followed one none is up", seated(5, "1,5,0;5,6,1;5,6,1"), 1);
        tipsOf("without one of two that are followed the third is not up", seated(5, "1,5,0;5,6,1;7,6,2"), 3);
        tipsOf("eight, none up: none alone tips", seated(0, Sand.times(8, ";1,1,0").substring(1)), 0);
        tipsOf("eight, half up", seated(5, Sand.times(4, "1,5,0;") + Sand.times(4, ";1,6,0").substring(1)), 15);
        tipsOf("eight, one less than half by one", seated(5, Sand.times(3, "1,5,0;") + "1,6,0;1,6,0;1,6,0;1,6,0"), 120);
        Sand.question("22: it changes nothing", x -> x.tips(2));
    }

    private static void tipsOf(String what, ByTheThumbs x, int bits) {
        Sand.due("22: " + what, x.tips(0), bits);
        Sand.row("22: " + what, x, Integer.bitCount(bits));
    }

    // ---- 23: would

    private static void would() {
        int[] means = {0, 1, 2, 3, 51, 52, 53, 102, 103, 104, 105, 9999};
        int[] favours = {0, 1, 2, 43, 44, 51, 52, 90, 93, 95, 97, 99};
        for (int m : means) {
            for (int f : favours) {
                for (int seen = 0; seen <= 1; seen++) {
                    ByTheThumbs x = Sand.world("n92100;s12200", "9,50,0");
                    if (seen == 1) {
                        x.sheet(0, 2, 99, 0);
                        x.fight(0, 1);
                    }
                    x.set(1, m);
                    x.sheet(0, 2, f, 1);
                    wouldAsFight("23: MEANS " + m + ", FAVOUR " + f + ", SEEN " + seen, x, 1, 0);
                    ByTheThumbs second = Sand.world("p11000;s12200;n92100", "9,50,0");
                    second.set(1, m);
                    second.sheet(0, 3, f, 1);
                    wouldAsFight("23: the second wins, MEANS " + m + ", FAVOUR " + f, second, 1, 2);
                    wouldAsFight("23: other ones", second, 0, 2);
                }
            }
        }
        ByTheThumbs full = Sand.world("n91099;n11099", "");
        full.would(0, 1);
        Sand.row("23: no more than 99", full, 0, 2);
        full.fight(0, 1);
        full.sheet(0, 2, 99, 0);
        full.would(0, 1);
        Sand.row("23: below 0", full, -2, 2);
        full.sheet(0, 2, 0, 0);
        full.would(0, 1);
        Sand.row("23: 0 at least each time", full, 4, 2);
        Sand.question("23: it changes nothing", x -> x.would(0, 4));
        Sand.question("23: no death comes of it", () -> Sand.world("n91000;s11000", "9,99,0"), x -> x.would(0, 1));
    }

    private static void wouldAsFight(String what, ByTheThumbs x, int one, int other) {
        int both = x.fighter(one, 4) + x.fighter(other, 4);
        int means = x.count(3);
        int would = x.would(one, other);
        long more = x.row(0);
        long pays = x.row(1);
        Sand.due(what + ": numbers of the ROW", x.count(12), 2);
        int winner = x.fight(one, other);
        Sand.due(what, would, 2L * winner + x.row(0));
        Sand.due(what + ": FAVOUR", more, x.fighter(one, 4) + x.fighter(other, 4) - both);
        Sand.due(what + ": what the giver pays", pays, means - x.count(3));
    }

    // ---- 24: beats

    private static void beats() {
        for (int i : NOBODY) {
            Sand.refused("24: beats(" + i + ")", x -> x.beats(i), -1);
        }
        Sand.refused("24: HURT 9", x -> x.beats(1), -2);
        Sand.refused("24: DEAD", x -> x.beats(2), -2);
        Sand.refused("24: FREED", x -> x.beats(3), -2);
        ByTheThumbs x = Sand.mixed();
        Sand.due("24: those with whom he could fight", x.beats(0), 16);
        Sand.row("24: those with whom he could fight", x, 0);
        Sand.due("24: none", x.beats(4), 0);
        Sand.row("24: none", x, 0);
        x.days(1);
        Sand.due("24: HURT 8 can", x.beats(0), 18);
        Sand.due("24: HURT 8 himself", x.beats(1), 0);
        ByTheThumbs like = Sand.world(Sand.EIGHT, "1,99,0");
        Sand.rule(like, "1");
        for (int i = 0; i < 8; i++) {
            Sand.due("24: of like ones the first: all but himself", like.beats(i), 255 & ~(1 << i));
            Sand.row("24: all would be DEAD, each by himself", like, 7);
        }
        like.set(1, 51);
        like.beats(0);
        Sand.row("24: MEANS one too little", like, 0);
        like.set(1, 52);
        like.beats(0);
        Sand.row("24: MEANS just enough for each alone", like, 7);
        ByTheThumbs alone = Sand.world("n11000", "");
        Sand.due("24: alone", alone.beats(0), 0);
        Sand.row("24: alone", alone, 0);
        Sand.question("24: it changes nothing", y -> y.beats(0));
    }

    // ---- 25: card

    private static void cardRange() {
        for (int n : new int[] {0, 5, -1, LEAST, MOST}) {
            Sand.refused("25: card(" + n + ")", x -> x.card(n), -1);
            Sand.due("25: another n, and no FIGHTERS", new ByTheThumbs().card(n), -1);
        }
        for (int able = 0; able <= 8; able++) {
            ByTheThumbs x = Sand.world(Sand.EIGHT.substring(0, Math.max(0, 7 * able - 1)), "");
            for (int n = 1; n <= 4; n++) {
                boolean enough = able >= 2 * n;
                x.odds(2, 1, 5);
                Sand.due("25: " + n + " pairs of " + able, x.card(n), enough ? 0 : -2);
                Sand.due("25: numbers of the ROW", x.count(12), enough ? 2 * n : 2);
            }
        }
        Sand.refused("25: HURT 9, DEAD, FREED can't fight", x -> x.card(2), -2);
        ByTheThumbs two = Sand.mixed();
        Sand.due("25: two who can", two.card(1), 0);
        Sand.row("25: two who can", two, 0, 4);
        two.days(1);
        Sand.due("25: HURT 8 can", two.card(1), 0);
        Sand.row("25: FAVOUR grows by new ARMS (0 and 1 were SEEN)", two, 0, 4);
        Sand.question("25: it changes nothing", x -> x.card(1));
    }

    private static void cardChoice() {
        ByTheThumbs eight = Sand.world(Sand.EIGHT, "");
        Sand.due("25: all alike", eight.card(4), 0);
        Sand.row("25: the least row", eight, 0, 1, 2, 3, 4, 5, 6, 7);
        Sand.due("25: all alike", eight.card(1), 0);
        Sand.row("25: the least row", eight, 0, 1);
        // Who loses with FAVOUR below 44 dies; 0 and 1 are liked and lose to all others.
        ByTheThumbs fewest = Sand.world("n11060;s11060;p11000;l11000;n91000;s91000", "9,50,0");
        Sand.due("25: the fewest DEAD of one pair", fewest.card(1), 0);
        Sand.row("25: the fewest DEAD of one pair", fewest, 0, 1);
        Sand.due("25: the fewest DEAD of two pairs", fewest.card(2), 0);
        Sand.row("25: the fewest DEAD of two pairs", fewest, 0, 2, 1, 3);
        Sand.due("25: the fewest DEAD of three pairs", fewest.card(3), 1);
        Sand.row("25: the fewest DEAD of three pairs", fewest, 0, 2, 1, 3, 4, 5);
        // None dies; n and s were SEEN, so that 0 with 1 grows by 0, others by 16.
        ByTheThumbs most = Sand.world("n11030;s11030;n11030;s11030", "");
        most.fight(0, 1);
        most.days(3);
        Sand.due("25: FAVOUR grows the most", most.card(2), 0);
        Sand.row("25: FAVOUR grows the most", most, 0, 2, 1, 3);
        ByTheThumbs edge = Sand.world("n11099;s11099;p11089;l11093", "");
        Sand.due("25: FAVOUR grows no higher than 99", edge.card(1), 0);
        Sand.row("25: 2 grows by 10, 3 by 6 at most", edge, 2, 3);
        ByTheThumbs deadFirst = Sand.world("n91099;n91099;s11000;s11000", "9,50,0");
        deadFirst.fight(0, 1);
        deadFirst.sheet(0, 2, 99, 0);
        Sand.due("25: fewer DEAD go ahead of FAVOUR", deadFirst.card(1), 0);
        Sand.row("25: fewer DEAD go ahead of FAVOUR", deadFirst, 0, 1);
    }

    // ---- 26: even

    private static void even() {
        Sand.due("26: no FIGHTERS", new ByTheThumbs().even(), -2);
        Sand.due("26: one alone", Sand.world("n11000", "").even(), -2);
        Sand.refused("26: one who can fight alone", CrowdEdgesTest::oneAble, x -> x.even(), -2);
        ByTheThumbs x = Sand.mixed();
        Sand.due("26: pairs that can fight now", x.even(), 2);
        Sand.row("26: pairs that can fight now", x, 0, 4);
        String[] rules = {"(s=9)*909*11-(s=9)", "(s=9)*909*11", "(s=9)*100*100", "(s=9)*100*100*99", "0-(s=9)*909*11", "s*0"};
        int[] want = {9998, 9999, 9999, 9999, 9999, 0};
        for (int i = 0; i < rules.length; i++) {
            ByTheThumbs y = Sand.world("n91000;s11000", "");
            Sand.rule(y, rules[i]);
            Sand.due("26: by " + rules[i], y.even(), want[i]);
            Sand.row("26: by " + rules[i], y, 0, 1);
        }
        ByTheThumbs far = Sand.world("n91000;s11000;p31000", "");
        Sand.rule(far, "s*100*100");
        Sand.due("26: all are more than 9999", far.even(), 9999);
        Sand.row("26: the least of them all the same", far, 1, 2);
        ByTheThumbs wrap = Sand.world("n91000;s11000;p31000", "");
        Sand.rule(wrap, "(s=9)*128*256*256*256-(s=1)-(s=3)*9");
        Sand.due("26: 8, not what wraps", wrap.even(), 8);
        Sand.row("26: 8, not what wraps", wrap, 1, 2);
        ByTheThumbs least = Sand.world("n91000;n91000;n91000", "");
        Sand.due("26: of like ones", least.even(), 0);
        Sand.row("26: the least row", least, 0, 1);
        Sand.question("26: it changes nothing", y -> y.even());
    }

    private static ByTheThumbs oneAble() {
        ByTheThumbs x = Sand.mixed();
        x.frees(0);
        return x;
    }

    // ---- 27: career

    private static void careerRange() {
        for (int i : NOBODY) {
            Sand.refused("27: career(" + i + ", 1)", x -> x.career(i, 1), -1);
        }
        for (int n : new int[] {0, 5, -1, LEAST, MOST}) {
            Sand.refused("27: career(0, " + n + ")", x -> x.career(0, n), -1);
            Sand.refused("27: career(2, " + n + ") of the DEAD", x -> x.career(2, n), -1);
        }
        Sand.refused("27: HURT 9", x -> x.career(1, 1), -2);
        Sand.refused("27: DEAD", x -> x.career(2, 1), -2);
        Sand.refused("27: FREED", x -> x.career(3, 1), -2);
        Sand.refused("27: nobody is left for him", CrowdEdgesTest::oneAble, x -> x.career(4, 1), -2);
        Sand.due("27: alone", Sand.world("n11000", "").career(0, 1), -2);
        ByTheThumbs four = Sand.world("n91000;s11000;p11000;l11000;n11000", "");
        Sand.due("27: four", four.career(0, 4), 40);
        Sand.row("27: four", four, 1, 2, 3, 4);
        Sand.due("27: one", four.career(0, 1), 10);
        Sand.row("27: one", four, 1);
        Sand.question("27: it changes nothing", () -> Sand.world("n91000;s11000", ""), x -> x.career(0, 3));
    }

    private static void careerEnds() {
        for (int sword = 1; sword <= 4; sword++) {
            ByTheThumbs x = Sand.world("n91000;s11000;p11000;l11000;n11000", "");
            x.set(0, sword);
            for (int n = 1; n <= 4; n++) {
                String what = "27: FREED after " + sword + ", of " + n;
                Sand.due(what, x.career(0, n), n <= sword ? 10 * n : -2);
            }
        }
        ByTheThumbs hurt = Sand.world("n11030;s91030", "");
        Sand.due("27: HURT 9 with the last", hurt.career(0, 3), 32);
        Sand.due("27: HURT 9 ahead of the last", hurt.career(0, 4), -2);
        ByTheThumbs other = Sand.world("n91030;s11030", "");
        Sand.due("27: the other one has HURT 9 with the last", other.career(0, 3), 44);
        Sand.due("27: the other one has HURT 9 ahead of the last", other.career(0, 4), -2);
        ByTheThumbs dead = Sand.world("l11010;s91030;p11060", "9,50,0");
        Sand.due("27: DEAD by one, not by the other", dead.career(0, 1), 20);
        Sand.row("27: DEAD by one, not by the other", dead, 2);
        ByTheThumbs last = Sand.world("n11050;s91099", "9,50,0");
        Sand.due("27: not DEAD with FAVOUR 54", last.career(0, 2), 54);
        Sand.due("27: not DEAD with FAVOUR 52", last.career(0, 3), 52);
        last.sheet(0, 2, 46, 53);
        Sand.due("27: not DEAD with FAVOUR 50", last.career(0, 2), 50);
        Sand.due("27: DEAD with the last, FAVOUR 48", last.career(0, 3), -2);
        ByTheThumbs top = Sand.world("n91095;s11000;p11000", "");
        Sand.due("27: 99 at most", top.career(0, 2), 99);
        Sand.row("27: the least row", top, 1, 1);
        ByTheThumbs killed = Sand.world("n91090;s11000;s11000", "9,50,0");
        Sand.due("27: the other one is DEAD", killed.career(0, 2), 99);
        Sand.row("27: another one then", killed, 1, 2);
        Sand.due("27: none is left", killed.career(0, 3), -2);
    }

    /** Rows that a hasty search would pass by: a worse start, a better end. */
    private static void careerChoice() {
        ByTheThumbs slow = Sand.world("n51000;n11000;s91000;p11000;l11000", "");
        Sand.rule(slow, "s");
        slow.fight(0, 1);
        slow.days(9);
        slow.sheet(3, 0, 0, 0);
        Sand.due("27: 6, 10 and 10 more, though 4, 10 and 10 came first", slow.career(0, 3), 26);
        Sand.row("27: of as good ones the least row", slow, 2, 3, 4);
        ByTheThumbs top = Sand.world("n51082;s91000;p11000;l11000", "");
        Sand.rule(top, "s");
        Sand.due("27: 99, though 98 came first", top.career(0, 2), 99);
        Sand.row("27: 99, though 98 came first", top, 2, 3);
        ByTheThumbs last = Sand.world("n11000;s11000;s11000;s11000;s11000;s11000;s11000;s91000", "");
        Sand.due("27: the last FIGHTER", last.career(7, 2), 20);
        Sand.row("27: the first one as another", last, 0, 1);
        Sand.due("27: the first FIGHTER, who loses to the last", last.career(0, 1), 6);
        Sand.row("27: the first FIGHTER, of like ones the first", last, 1);
    }

    // ---- 28: sword

    private static void swordRange() {
        int[][] none = {{0, 0}, {2, 2}, {5, 0}, {0, 5}, {-1, 0}, {0, -1}, {2, 5}, {LEAST, 0}, {0, MOST}};
        for (int[] p : none) {
            Sand.refused("28: sword(" + p[0] + ", " + p[1] + ")", x -> x.sword(p[0], p[1]), -1);
        }
        int[][] now = {{0, 1}, {1, 0}, {0, 2}, {2, 0}, {0, 3}, {3, 0}, {1, 2}, {2, 3}};
        for (int[] p : now) {
            Sand.refused("28: can't fight now: sword(" + p[0] + ", " + p[1] + ")", x -> x.sword(p[0], p[1]), -3);
        }
        Sand.refused("28: it tells no ROW and changes nothing", x -> x.sword(0, 4), 6);
    }

    private static void swordEnds() {
        for (int sword = 1; sword <= 9; sword++) {
            for (int fought = 0; fought <= 2; fought++) {
                ByTheThumbs x = Sand.world("n91030;s11030", "");
                x.set(0, 9);
                for (int i = 0; i < fought; i++) {
                    x.fight(0, 1);
                }
                x.days(30);
                x.set(0, sword);
                int want = Math.max(1, sword - fought);
                Sand.due("28: SWORD " + sword + ", FOUGHT " + fought, x.sword(0, 1), want);
                Sand.due("28: the loser too", x.sword(1, 0), want);
            }
        }
        // A DAY behind each: from HURT 6 he goes to 9, 8, 9, 8, ..; without it the second would not be.
        ByTheThumbs hurt = Sand.world("n91030;s11030;p91030", "");
        hurt.fight(2, 1);
        hurt.fight(2, 1);
        hurt.set(0, 4);
        Sand.due("28: a DAY behind each", hurt.sword(1, 0), 2);
        hurt.days(1);
        Sand.due("28: FOUGHT more often, he is FREED first", hurt.sword(1, 0), 2);
        Sand.due("28: the other one is FREED ahead of him", hurt.sword(0, 1), -2);
        ByTheThumbs second = Sand.world("p11030;n11030;s91030", "");
        Sand.due("28: one who loses to a higher number", second.sword(1, 2), 5);
        Sand.due("28: a higher number", second.sword(2, 1), 5);
        // He loses, and dies by it, at DAY 2 alone: the third FIGHT.
        ByTheThumbs third = Sand.world("n91000;s11099", "9,50,0");
        Sand.rule(third, "(s=9)*5+(s=1)*(d=2)*9");
        third.set(0, 2);
        Sand.due("28: FREED with the second, at DAY 1", third.sword(0, 1), 2);
        third.set(0, 3);
        Sand.due("28: DEAD with the third, at DAY 2", third.sword(0, 1), -2);
        ByTheThumbs dead = Sand.world("n91030;s11030", "9,33,0");
        Sand.due("28: SPARED with 36, 34, DEAD with 32", dead.sword(1, 0), -2);
        dead.set(0, 2);
        Sand.due("28: FREED ahead of that", dead.sword(1, 0), 2);
        dead.set(0, 3);
        Sand.due("28: the other one is DEAD with the third, he is FREED by it", dead.sword(0, 1), 3);
        Sand.due("28: he is DEAD with the third", dead.sword(1, 0), -2);
        dead.set(0, 4);
        Sand.due("28: the other one is DEAD ahead of that", dead.sword(0, 1), -2);
    }

    // ---- 29: worth

    private static void worth() {
        for (int owner : new int[] {-1, 4, LEAST, MOST}) {
            Sand.refused("29: worth(" + owner + ")", x -> x.worth(owner), -1);
        }
        ByTheThumbs none = new ByTheThumbs();
        for (int owner = 0; owner < 4; owner++) {
            Sand.due("29: none", none.worth(owner), 0);
            Sand.row("29: none: NONE", none, 0, -1);
        }
        for (int favour = 49; favour <= 51; favour++) {
            ByTheThumbs x = Sand.world("n190" + favour + ";n163" + favour, "1,50,0");
            Sand.due("29: FAVOUR " + favour, x.worth(0), favour < 50 ? 450 : 180);
            Sand.row("29: FAVOUR " + favour, x, 1, 0);
            Sand.due("29: the last OWNER", x.worth(3), favour < 50 ? 300 : 120);
            Sand.row("29: the last OWNER", x, 1, 1);
        }
        ByTheThumbs mixed = Sand.mixed();
        Sand.due("29: HERE alone", mixed.worth(0), 60);
        Sand.row("29: HERE alone, HURT 9 too", mixed, 3, 0);
        ByTheThumbs like = Sand.world("n12050;n15050;n12000;n15050", "1,50,0");
        Sand.due("29: all", like.worth(0), 40 + 100 + 100 + 100);
        Sand.row("29: of like ones the first", like, 4, 1);
        ByTheThumbs most = Sand.world(Sand.times(8, ";n19000").substring(1), "1,50,0");
        Sand.due("29: the most there can be", most.worth(0), 3600);
        Sand.row("29: the most there can be", most, 8, 0);
        Sand.due("29: no SEATS: SPARED", Sand.world("n11000", "").worth(0), 20);
        Sand.question("29: it changes nothing", x -> x.worth(0));
    }

    // ---- 30: hires

    private static void hiresRange() {
        for (int n : new int[] {-1, 100, LEAST, MOST}) {
            Sand.refused("30: hires(" + n + ")", x -> x.hires(n), -1);
        }
        ByTheThumbs none = new ByTheThumbs();
        Sand.due("30: no FIGHTERS", none.hires(99), 0);
        Sand.row("30: no FIGHTERS", none, 0, 0);
        for (int n = 0; n <= 99; n++) {
            ByTheThumbs eight = Sand.world(Sand.times(8, ";n19000").substring(1), "");
            int many = Math.min(8, n / 9);
            Sand.due("30: eight of HIRE 9 for " + n, eight.hires(n), many);
            Sand.row("30: eight of HIRE 9 for " + n, eight, (1 << many) - 1, 9L * many);
        }
        ByTheThumbs mixed = Sand.mixed();
        Sand.due("30: who can fight now", mixed.hires(99), 2);
        Sand.row("30: who can fight now", mixed, 17, 2);
        mixed.days(1);
        Sand.due("30: HURT 8 can", mixed.hires(99), 3);
        Sand.row("30: HURT 8 can", mixed, 19, 3);
        Sand.question("30: it changes nothing", x -> x.hires(9));
    }

    private static void hiresChoice() {
        ByTheThumbs x = Sand.world("n15099;n11001;n12002;n13003;n12002", "");
        int[][] want = {{0, 0, 0}, {1, 2, 1}, {1, 4, 2}, {2, 6, 3}, {2, 10, 4}, {3, 22, 5}, {3, 14, 6}, {3, 28, 7}, {4, 30, 8}, {4, 30, 8},
            {4, 23, 10}, {4, 29, 12}};
        int[] n = {0, 1, 2, 3, 4, 5, 6, 7, 8, 9, 10, 12};
        for (int i = 0; i < n.length; i++) {
            Sand.due("30: for " + n[i], x.hires(n[i]), want[i][0]);
            Sand.row("30: for " + n[i], x, want[i][1], want[i][2]);
        }
        ByTheThumbs like = Sand.world("n12030;n12030;n12030", "");
        Sand.due("30: of like ones", like.hires(5), 2);
        Sand.row("30: the least bits", like, 3, 4);
        ByTheThumbs favour = Sand.world("n11000;n12050;n13050", "");
        Sand.due("30: more FAVOUR for more HIRE", favour.hires(4), 2);
        Sand.row("30: more FAVOUR for more HIRE", favour, 3, 3);
        Sand.due("30: more FAVOUR for more HIRE", favour.hires(5), 2);
        Sand.row("30: more FAVOUR for more HIRE", favour, 6, 5);
    }
}
