import java.util.NoSuchElementException;

/** For each promise of the document: ordinary inputs, its edges, wrong inputs; answers worked out by hand. */
public final class PromisesTest {
    /** Two owners' four fighters and three seats: 0 is liked by the first seat, which the others follow. */
    private static final String FOUR = "n52030;s73115;p41040;l92105";
    private static final String THREE = "30,20,0;20,40,1;10,90,2";
    private static final String EIGHT = "n11000;s11000;p11000;l11000;n11000;s11000;p11000;l11000";
    private static int wrong = 0;
    private static int looked = 0;

    public static void main(String[] args) {
        newObject();
        sign();
        end();
        fighters();
        seats();
        rule();
        fighterAndSeat();
        purse();
        strength();
        set();
        sheet();
        fight();
        fightToDeath();
        days();
        song();
        frees();
        games();
        undo();
        thumbs();
        mercy();
        claque();
        tips();
        would();
        beats();
        card();
        even();
        career();
        sword();
        worth();
        hires();
        score();
        ranks();
        places();
        watch();
        odds();
        till();
        heard();
        ask();
        rests();
        law();
        years();
        keepAgain();
        count();
        row();
        rowStaysWhenRefused();
        System.out.println(looked + " answers looked at, " + wrong + " not as due");
        if (wrong != 0) {
            System.exit(1);
        }
    }

    private static void due(String what, long got, long want) {
        looked++;
        if (got != want) {
            wrong++;
            System.out.println(what + " answered " + got + ", due is " + want);
        }
    }

    private static void due(String what, boolean got, boolean want) {
        due(what, got ? 1 : 0, want ? 1 : 0);
    }

    /** The ROW, whole. */
    private static void row(String what, ByTheThumbs x, long... want) {
        due(what + ": numbers of the ROW", x.count(12), want.length);
        for (int i = 0; i < want.length && i < x.count(12); i++) {
            due(what + ": row(" + i + ")", x.row(i), want[i]);
        }
    }

    private static void put(ByTheThumbs x, String text) {
        x.end(0);
        for (int i = 0; i < text.length(); i += 4) {
            int v = 0;
            for (int j = 0; j < 4; j++) {
                v = v << 8 | (i + j < text.length() ? text.charAt(i + j) : 'x');
            }
            x.sign(v);
        }
        x.end(text.length());
    }

    private static int fighters(ByTheThumbs x, String text) {
        put(x, text);
        return x.fighters();
    }

    private static int seats(ByTheThumbs x, String text) {
        put(x, text);
        return x.seats();
    }

    private static int rule(ByTheThumbs x, String text) {
        put(x, text);
        return x.rule();
    }

    private static int games(ByTheThumbs x, String text) {
        put(x, text);
        return x.games();
    }

    private static int law(ByTheThumbs x, String text) {
        put(x, text);
        return x.law();
    }

    private static ByTheThumbs world(String fighters, String seats) {
        ByTheThumbs x = new ByTheThumbs();
        fighters(x, fighters);
        seats(x, seats);
        return x;
    }

    private static void newObject() {
        ByTheThumbs x = new ByTheThumbs();
        long[] first = {0, 0, 5, 1000, 0, 0, 0, 0, 0, 0, 0, 0, 0, 0};
        for (int what = 0; what < first.length; what++) {
            due("1: count(" + what + ")", x.count(what), first[what]);
        }
        for (int owner = 0; owner < 4; owner++) {
            due("1: purse", x.purse(owner), 0);
        }
    }

    private static void sign() {
        ByTheThumbs x = new ByTheThumbs();
        for (int i = 1; i <= 20; i++) {
            due("2: sign", x.sign(0x31323334), 4 * i);
        }
        due("2: sign beyond 80", x.sign(0), -1);
        due("2: the text stays", x.count(13), 80);
        x.end(77);
        due("2: sign at 77", x.sign(0), -1);
        x.end(76);
        due("2: sign at 76", x.sign(0), 80);
        ByTheThumbs y = new ByTheThumbs();
        y.sign('n' << 24 | '5' << 16 | '2' << 8 | '3');
        y.sign('4' << 24 | 0xff0000 | 0xff00 | 0xff);
        y.end(5);
        due("2: the highest byte first", y.fighters(), 1);
        due("2: SKILL", y.fighter(0, 1), 5);
        due("2: OWNER", y.fighter(0, 3), 3);
        y.sign(0xffffffff);
        due("2: high bytes are signs too", y.fighters(), -1);
    }

    private static void end() {
        ByTheThumbs x = new ByTheThumbs();
        due("3: end(0) of nothing", x.end(0), true);
        due("3: end(1) of nothing", x.end(1), false);
        x.sign(0);
        due("3: end(-1)", x.end(-1), false);
        due("3: end(5)", x.end(5), false);
        due("3: end(max)", x.end(Integer.MAX_VALUE), false);
        due("3: end(4)", x.end(4), true);
        due("3: end(1)", x.end(1), true);
        due("3: signs", x.count(13), 1);
        due("3: end(2) then", x.end(2), false);
        due("3: sign behind it", x.sign(0), 5);
    }

    private static void fighters() {
        ByTheThumbs x = new ByTheThumbs();
        due("4: nothing", fighters(x, ""), 0);
        due("4: a bad letter", fighters(x, "x1111"), -1);
        due("4: a capital", fighters(x, "N1111"), -1);
        due("4: SKILL 0", fighters(x, "n0111"), -2);
        due("4: HIRE 0", fighters(x, "n1011"), -3);
        due("4: OWNER 4", fighters(x, "n1141"), -4);
        due("4: no FAVOUR", fighters(x, "n111;"), -5);
        due("4: three digits", fighters(x, "n1110123"), -7);
        due("4: ends too early", fighters(x, "n11"), -4);
        due("4: ends with ;", fighters(x, "n1110;"), -7);
        due("4: the second is bad", fighters(x, "n1110;s1111;p1191"), -16);
        due("4: a sign behind 9 is no digit", fighters(x, "n1110:"), -6);
        due("4: a sign ahead of 0 is no digit", fighters(x, "n1110/"), -6);
        due("4: nothing came of all these", x.count(0), 0);
        due("4: the text is emptied", x.count(13), 0);
        due("4: two", fighters(x, "l9930;p11199"), 2);
        long[][] want = {{3, 9, 9, 3, 0, 0, 0, 0, 0}, {2, 1, 1, 1, 99, 0, 0, 0, 0}};
        for (int i = 0; i < 2; i++) {
            for (int what = 0; what <= 8; what++) {
                due("4: fighter(" + i + ", " + what + ")", x.fighter(i, what), want[i][what]);
            }
        }
        due("4: FAVOUR 05", fighters(x, "n11105;s1110"), 2);
        due("4: it is 5", x.fighter(2, 4), 5);
        due("4: four more and one", fighters(x, "n1110;n1110;n1110;n1110;n1110"), -25);
        due("4: none of them came", x.count(0), 4);
        due("4: four more and ;", fighters(x, "n1110;n1110;n1110;n1110;"), -25);
        due("4: four more", fighters(x, "n1110;n1110;n1110;n1110"), 4);
        due("4: no room", fighters(x, "n1110"), -1);
        due("4: no room, nothing", fighters(x, ""), 0);
        ByTheThumbs y = new ByTheThumbs();
        due("4: long", fighters(y, EIGHT + ";n11000;n11000;n11000"), -57);
        due("4: eight", fighters(y, EIGHT), 8);
    }

    private static void seats() {
        ByTheThumbs x = new ByTheThumbs();
        due("5: nothing", seats(x, ""), 0);
        due("5: PEOPLE 0", seats(x, "0,1,1"), -1);
        due("5: PEOPLE 00", seats(x, "00,1,1"), -2);
        due("5: PEOPLE 0 at the end", seats(x, "0"), -1);
        due("5: PEOPLE 0 ahead of a bad sign", seats(x, "0x"), -1);
        due("5: PEOPLE 0 in the second", seats(x, "1,1,1;00,1,1"), -8);
        due("5: PEOPLE of three digits", seats(x, "100,1,1"), -3);
        due("5: no PEOPLE", seats(x, ",1,1"), -1);
        due("5: no comma", seats(x, "1;"), -2);
        due("5: no PICKY", seats(x, "1,,1"), -3);
        due("5: PICKY of three digits", seats(x, "1,100,1"), -5);
        due("5: FOLLOWS of two digits", seats(x, "1,1,11"), -6);
        due("5: ends too early", seats(x, "1,1,"), -5);
        due("5: nothing came", x.count(1), 0);
        due("5: the text is emptied", x.count(13), 0);
        due("5: two", seats(x, "05,00,0;99,99,9"), 2);
        due("5: PEOPLE 05", x.seat(0, 0), 5);
        due("5: PICKY", x.seat(0, 1), 0);
        due("5: FOLLOWS", x.seat(0, 2), 0);
        due("5: PEOPLE", x.seat(1, 0), 99);
        due("5: PICKY", x.seat(1, 1), 99);
        due("5: FOLLOWS", x.seat(1, 2), 9);
        due("5: six more and one", seats(x, "1,1,1;1,1,1;1,1,1;1,1,1;1,1,1;1,1,1;1"), -37);
        due("5: six more", seats(x, "1,1,1;1,1,1;1,1,1;1,1,1;1,1,1;1,1,1"), 6);
        due("5: no room", seats(x, "1,1,1"), -1);
    }

    private static void rule() {
        ByTheThumbs x = new ByTheThumbs();
        String forty = "s+s+s+s+s+s+s+s+s+s+s+s+s+s+s+s+s+s+s+ss";
        due("6: none", rule(x, ""), 0);
        due("6: two things", rule(x, forty), -40);
        due("6: forty", rule(x, forty.substring(0, 39)), 0);
        due("6: forty and -", rule(x, "-" + forty.substring(0, 39)), 0);
        due("6: forty-one", rule(x, "--" + forty.substring(0, 39)), -41);
        due("6: forty, then an end", rule(x, forty.substring(0, 39) + "+s"), -41);
        due("6: it ends too early at 40", rule(x, forty.substring(0, 39) + "+"), -41);
        due("6: a bad sign ahead of 40", rule(x, "x" + forty), -1);
        due("6: an end too early", rule(x, "s*"), -3);
        due("6: empty brackets", rule(x, "()"), -2);
        due("6: four brackets", rule(x, "((((1))))"), 0);
        due("6: five brackets", rule(x, "(((((1)))))"), -5);
        due("6: brackets side by side", rule(x, "(((1)))+((((2))))"), 0);
        due("6: too many closed", rule(x, "(1))"), -4);
        due("6: not closed", rule(x, "(1"), -3);
        due("6: three digits", rule(x, "999"), 0);
        due("6: four digits", rule(x, "9999"), -4);
        due("6: compared twice", rule(x, "1<2=3"), -4);
        due("6: compared twice by brackets", rule(x, "(1<2)=(3>2)"), 0);
        due("6: compared, summed, compared", rule(x, "1<2+3<4"), -6);
        due("6: a digit behind a letter", rule(x, "s1"), -2);
        due("6: a letter behind a digit", rule(x, "1s"), -2);
        due("6: a bracket behind a thing", rule(x, "s(1)"), -2);
        due("6: +", rule(x, "+1"), -1);
        due("6: a sign behind 9 is no digit", rule(x, "1:"), -2);
        due("6: a sign ahead of 0 is no digit", rule(x, "1."), -2);
        due("6: no letter", rule(x, "b"), -1);
        due("6: many -", rule(x, "1--------------------------------------2"), 0);
        due("6: the text is emptied", x.count(13), 0);
    }

    private static void fighterAndSeat() {
        ByTheThumbs x = world(FOUR, THREE);
        int[][] none = {{-1, 0}, {4, 0}, {0, -1}, {0, 9}, {Integer.MIN_VALUE, 0}, {Integer.MAX_VALUE, 0}, {0, Integer.MAX_VALUE}};
        for (int[] n : none) {
            boolean thrown = false;
            try {
                x.fighter(n[0], n[1]);
            } catch (NoSuchElementException e) {
                thrown = true;
            }
            due("7: fighter(" + n[0] + ", " + n[1] + ") throws", thrown, true);
        }
        int[][] noSeat = {{-1, 0}, {3, 0}, {0, -1}, {0, 3}, {Integer.MIN_VALUE, 0}, {Integer.MAX_VALUE, 0}};
        for (int[] n : noSeat) {
            boolean thrown = false;
            try {
                x.seat(n[0], n[1]);
            } catch (NoSuchElementException e) {
                thrown = true;
            }
            due("8: seat(" + n[0] + ", " + n[1] + ") throws", thrown, true);
        }
        due("7: ARMS", x.fighter(2, 0), 2);
        due("7: HIRE", x.fighter(3, 2), 2);
        due("8: PEOPLE", x.seat(2, 0), 10);
        x.fight(0, 1);
        long[] loser = {0, 5, 2, 0, 36, 3, 1, 0, 0};
        long[] winner = {1, 7, 3, 1, 25, 0, 1, 1, 0};
        for (int what = 0; what <= 8; what++) {
            due("7: the loser's " + what, x.fighter(0, what), loser[what]);
            due("7: the winner's " + what, x.fighter(1, what), winner[what]);
        }
    }

    private static void purse() {
        ByTheThumbs x = world(FOUR, THREE);
        x.fight(0, 1);
        due("9: purse(0)", x.purse(0), 2);
        due("9: purse(1)", x.purse(1), 3);
        due("9: purse(3)", x.purse(3), 0);
        due("9: purse(4)", x.purse(4), -1);
        due("9: purse(-1)", x.purse(-1), -1);
    }

    private static int strengthBy(String rule) {
        // 0: ARMS n, SKILL 5, FAVOUR 39 - 2 + 4 = 41, WON 2, FOUGHT 2; 2: ARMS p, HURT 6 - 1 = 5; DAY 9.
        ByTheThumbs x = world("n52029;s73115;p11040", "");
        x.fight(0, 2);
        x.fight(0, 2);
        x.days(1);
        for (int i = 0; i < 8; i++) {
            x.days(1);
        }
        due("10: " + rule, rule(x, rule), 0);
        return x.strength(0, 2);
    }

    private static void strength() {
        due("10: standard", strengthBy(""), 54);
        due("10: s", strengthBy("s"), 5);
        due("10: h", strengthBy("h"), 0);
        due("10: w", strengthBy("w"), 2);
        due("10: f", strengthBy("f*3"), 6);
        due("10: l is FAVOUR by 10", strengthBy("l"), 4);
        due("10: a", strengthBy("a"), 0);
        due("10: e", strengthBy("e"), 2);
        due("10: d is the rest of DAY by 8", strengthBy("d"), 1);
        due("10: * ahead of +", strengthBy("2+3*4"), 14);
        due("10: from the left", strengthBy("9-3-2"), 4);
        due("10: / from the left", strengthBy("100/7/2"), 7);
        due("10: * and / from the left", strengthBy("7/2*2"), 6);
        due("10: cut to 0", strengthBy("-7/2"), -3);
        due("10: by 0", strengthBy("7/(1-1)"), 0);
        due("10: 0 by 0", strengthBy("0/0+5"), 5);
        due("10: < binds least", strengthBy("1+1<3*1"), 1);
        due("10: <", strengthBy("3<3"), 0);
        due("10: >", strengthBy("4>3"), 1);
        due("10: =", strengthBy("4=2+2"), 1);
        due("10: - ahead binds most", strengthBy("-2*-3"), 6);
        due("10: many -", strengthBy("5---2"), 3);
        due("10: brackets", strengthBy("(2+3)*4"), 20);
        due("10: ints wrap", strengthBy("999*999*999*999"), 999 * 999 * 999 * 999);
        due("10: least int by -1", strengthBy("(-128*256*256*256)/-1"), Integer.MIN_VALUE);
        ByTheThumbs x = world(FOUR, "");
        due("10: (a>e)*3", x.strength(3, 0), 93);
        due("10: none for lesser arms", x.strength(0, 3), 50);
        rule(x, "s-");
        due("10: a refused rule changes nothing", x.strength(3, 0), 93);
        rule(x, "s");
        due("10: a new rule", x.strength(3, 0), 9);
        rule(x, "");
        due("10: none again", x.strength(3, 0), 93);
        int[][] none = {{0, 0}, {0, 4}, {4, 0}, {-1, 0}, {0, -1}};
        for (int[] n : none) {
            boolean thrown = false;
            try {
                x.strength(n[0], n[1]);
            } catch (NoSuchElementException e) {
                thrown = true;
            }
            due("10: strength(" + n[0] + ", " + n[1] + ") throws", thrown, true);
        }
    }

    private static void set() {
        ByTheThumbs x = world(FOUR, THREE);
        due("11: SWORD", x.set(0, 9), 5);
        due("11: SWORD", x.set(0, 1), 9);
        due("11: MEANS", x.set(1, 9999), 1000);
        due("11: MEANS", x.set(1, 0), 9999);
        int[][] bad = {{0, 0}, {0, 10}, {1, -1}, {1, 10000}, {2, 5}, {-1, 5}};
        for (int[] b : bad) {
            due("11: set(" + b[0] + ", " + b[1] + ")", x.set(b[0], b[1]), -1);
        }
        due("11: SWORD is", x.count(2), 1);
        due("11: MEANS are", x.count(3), 0);
        ByTheThumbs y = world(FOUR, "");
        y.fight(0, 1);
        y.set(0, 1);
        due("11: SWORD frees nobody but in a FIGHT", y.count(7), 0);
        y.fight(0, 2);
        due("11: then it does, for more than so often too", y.count(7), 5);
    }

    private static void sheet() {
        ByTheThumbs x = world(FOUR, THREE);
        due("12: ints", x.sheet(2, 4, 10, 20), 10 + 30 + 50 + 70);
        due("12: FAVOUR", x.fighter(3, 4), 70);
        due("12: those behind have 0", x.sheet(2, 2, 10, 20), 40);
        due("12: FAVOUR", x.fighter(2, 4), 0);
        due("12: put to 0 .. 99", x.sheet(2, 4, -50, 100), 0 + 50 + 99 + 99);
        due("12: bytes", x.sheet(0, 4, 100, 20), 99 + 99 + 0 + 0);
        due("12: bytes, lowest bits", x.sheet(0, 2, 256 + 7, 256), 14);
        due("12: shorts", x.sheet(1, 3, 65536 + 8, 32768), 8 + 0 + 8);
        due("12: ints wrap", x.sheet(2, 3, Integer.MAX_VALUE, 2), 99 + 0 + 0);
        due("12: more entries than FIGHTERS", x.sheet(2, 8, 1, 0), 4);
        due("12: n below 0", x.sheet(0, -1, 5, 5), -2);
        due("12: nothing changes", x.fighter(3, 4), 1);
        due("12: n 9", x.sheet(0, 9, 5, 5), -1);
        due("12: kind 4", x.sheet(4, 1, 5, 5), -1);
        due("12: kind -1, n below 0", x.sheet(-1, -1, 5, 5), -1);
        due("12: missing, n 9", x.sheet(3, 9, 5, 5), -1);
        due("12: still nothing", x.fighter(3, 4), 1);
        due("12: missing, n below 0", x.sheet(3, -1, 5, 5), -3);
        due("12: all 0", x.fighter(3, 4), 0);
        due("12: no entries", x.sheet(2, 0, 5, 5), 0);
        due("12: no undoing of it", x.count(11), 0);
    }

    private static void fight() {
        ByTheThumbs x = world(FOUR, THREE);
        due("13: 1 wins", x.fight(0, 1), 1);
        row("13", x, 0, 36, 25, 995);
        due("13: SEEN", x.count(8), 1);
        due("13: again, the other way round", x.fight(1, 0), 1);
        row("13: SEEN in either order", x, 0, 27, 34, 990);
        due("13: SEEN", x.count(8), 1);
        due("13: HURT 6 loses to less SKILL", x.fight(0, 2), 2);
        row("13: new arms", x, 0, 40, 50, 987);
        due("13: HURT 9", x.fighter(0, 5), 9);
        due("13: HURT 9 as the first", x.fight(0, 1), -3);
        due("13: HURT 9 as the second", x.fight(1, 0), -3);
        due("13: like ones", x.fight(1, 1), -1);
        due("13: none such", x.fight(1, 4), -1);
        due("13: none such", x.fight(-1, 1), -1);
        row("13: refused", x, 0, 40, 50, 987);
        ByTheThumbs like = world("n51000;n51000", "");
        due("13: of like ones the first", like.fight(1, 0), 1);
        due("13: of like ones the first", world("n51000;n51000", "").fight(0, 1), 0);
        due("13: like arms are SEEN too", like.count(8), 1);
        ByTheThumbs poor = world(FOUR, THREE);
        poor.set(1, 4);
        poor.fight(1, 0);
        due("13: the first's HIRE first", poor.purse(1), 3);
        due("13: then what is left", poor.purse(0), 1);
        row("13: MEANS are gone", poor, 0, 25, 36, 0);
        ByTheThumbs edge = world("n91098;n11001", "");
        edge.fight(0, 1);
        row("13: 99 at most", edge, 0, 99, 7, 998);
        edge.sheet(2, 2, 1, 0);
        edge.fight(0, 1);
        row("13: 0 at least each time", edge, 0, 4, 0, 996);
    }

    private static void fightToDeath() {
        ByTheThumbs x = world("s52030;n12110;n12110", "9,50,0");
        x.set(1, 104);
        due("13: dead", x.fight(0, 1), 0);
        row("13: dead", x, 1, 40, 16, 0);
        due("13: the OWNER is paid", x.purse(1), 102);
        due("13: HIRE of the winner", x.purse(0), 2);
        due("13: fate", x.fighter(1, 8), 1);
        due("13: DEAD", x.count(6), 2);
        due("13: DEAD can't fight", x.fight(0, 1), -2);
        due("13: DEAD comes ahead of HURT", x.fight(1, 2), -2);
        ByTheThumbs poor = world("s52030;n12110", "9,50,0");
        poor.set(1, 103);
        poor.fight(0, 1);
        row("13: MEANS too little for death", poor, 0, 40, 16, 99);
        ByTheThumbs liked = world("s52030;n12144", "9,50,0");
        liked.fight(0, 1);
        row("13: spared by FAVOUR then", liked, 0, 40, 50, 996);
        ByTheThumbs sword = world("s52030;n12110", "9,50,0");
        sword.set(0, 1);
        sword.fight(0, 1);
        due("13: the winner is FREED", sword.count(7), 1);
        due("13: DEAD is not FREED", sword.count(6), 2);
        ByTheThumbs freed = world("s52030;n12110", "");
        freed.set(0, 1);
        freed.fight(0, 1);
        due("13: both are FREED", freed.count(7), 3);
        due("13: FREED can't fight", freed.fight(0, 1), -2);
    }

    private static void days() {
        ByTheThumbs x = world("s52030;n12110;n92110", "9,50,0");
        x.fight(2, 0);
        x.fight(2, 1);
        due("14: DEAD", x.count(6), 3);
        ByTheThumbs y = world(FOUR, THREE);
        y.fight(1, 0);
        y.fight(3, 2);
        y.set(0, 1);
        y.fight(3, 2);
        due("14: two days", y.days(2), 2);
        due("14: HURT of one that is HERE", y.fighter(0, 5), 1);
        due("14: HURT of one that is FREED", y.fighter(2, 5), 6);
        due("14: thirty", y.days(30), 32);
        due("14: 0 at least", y.fighter(0, 5), 0);
        due("14: 0", y.days(0), -1);
        due("14: 31", y.days(31), -1);
        due("14: DAY", y.count(4), 32);
        due("14: without FIGHTERS", new ByTheThumbs().days(1), 1);
    }

    private static void song() {
        ByTheThumbs x = world("s52097;n12110", "9,99,0");
        due("15: song", x.song(0, 99), 901);
        due("15: 99 at most", x.fighter(0, 4), 99);
        due("15: by 1", x.song(1, 1), 900);
        due("15: 3 more", x.fighter(1, 4), 13);
        due("15: 0", x.song(0, 0), -1);
        due("15: 100", x.song(0, 100), -1);
        due("15: none such", x.song(2, 5), -1);
        x.set(1, 5);
        due("15: too little", x.song(0, 6), -3);
        due("15: as much as he has", x.song(1, 5), 0);
        x.set(1, 1000);
        x.fight(0, 1);
        due("15: DEAD", x.song(1, 5), -2);
        due("15: DEAD, but another n", x.song(1, 100), -1);
        x.set(1, 0);
        due("15: DEAD, and too little", x.song(1, 5), -2);
    }

    private static void frees() {
        ByTheThumbs x = world("s52030;n12110;p11200", "9,50,0");
        due("16: too little", x.frees(0), -3);
        due("16: none such", x.frees(3), -1);
        x.fight(0, 1);
        due("16: DEAD", x.frees(1), -2);
        ByTheThumbs y = world("s51030;n11010;p11100", "9,50,0");
        y.fight(0, 1);
        due("16: PURSE", y.purse(0), 52);
        due("16: bought free", y.frees(0), 32);
        due("16: fate", y.fighter(0, 8), 2);
        due("16: not HERE", y.frees(0), -2);
        due("16: PURSE then", y.purse(0), 32);
        due("16: MEANS stay", y.count(3), 948);
        due("16: another PURSE", y.frees(2), -3);
    }

    private static void games() {
        ByTheThumbs x = world(FOUR, THREE);
        due("17: all", games(x, "f01d2s3"), 3);
        row("17: all", x, 0, 0);
        due("17: song by 5", x.count(3), 990);
        due("17: FAVOUR of 3", x.fighter(3, 4), 8);
        due("17: DAY", x.count(4), 2);
        due("17: one can't be", games(x, "f01b0d1"), 1);
        row("17: one can't be", x, 1, 0);
        due("17: what is behind is not done", x.count(4), 2);
        due("17: as one", x.count(11), 2);
        due("17: the first can't be", games(x, "f00d1"), 0);
        row("17: the first can't be", x, 1, 0);
        due("17: nothing to be undone", x.count(11), 2);
        due("17: empty", games(x, ""), 0);
        row("17: empty", x, 0, 0);
        String[] bad = {"x", "f", "f0", "fx", "f0x", "d", "d0", "s", "sx", "b", "d1x", "f01d", "f01 d1", "d11", "f:1", "f0:", "s:", "b/", "d:"};
        int[] at = {0, 1, 2, 1, 2, 1, 1, 1, 1, 1, 2, 4, 3, 2, 1, 2, 1, 1, 1};
        for (int i = 0; i < bad.length; i++) {
            due("17: " + bad[i], games(x, bad[i]), -1 - at[i]);
        }
        row("17: refused", x, 0, 0);
        due("17: nothing is done then", x.count(4), 2);
        String sixty = "d1d1d1d1d1d1d1d1d1d1d1d1d1d1d1d1d1d1d1d1d1d1d1d1d1d1d1d1d1d1";
        due("17: sixty signs", games(x, sixty), 30);
        due("17: sixty-two", games(x, sixty + "d1"), -61);
        due("17: an ACT over the sixtieth", games(x, sixty.substring(2) + "f01"), -61);
        due("17: an end too early at sixty", games(x, sixty.substring(2) + "f0"), -61);
        due("17: the text is emptied", x.count(13), 0);
        ByTheThumbs y = world("s91030;n11010;n11010;n11010", "9,50,0");
        due("17: DEAD", games(y, "f01f02b0f03"), 3);
        row("17: two DEAD, then one can't be", y, 1, 2);
        due("17: the bought one", y.count(7), 1);
    }

    private static void undo() {
        ByTheThumbs x = world(FOUR, THREE);
        due("18: none", x.undo(), -1);
        for (int i = 1; i <= 13; i++) {
            x.days(1);
        }
        due("18: twelve are kept", x.count(11), 12);
        due("18: one", x.undo(), 11);
        due("18: DAY", x.count(4), 12);
        for (int i = 10; i >= 0; i--) {
            due("18: one more", x.undo(), i);
        }
        due("18: DAY", x.count(4), 1);
        due("18: none", x.undo(), -1);
        x.fight(0, 1);
        x.set(1, 7);
        x.set(0, 3);
        rule(x, "s");
        x.sheet(3, 0, 0, 0);
        due("18: as ahead of the fight", x.undo(), 0);
        due("18: MEANS", x.count(3), 1000);
        due("18: FAVOUR", x.fighter(0, 4), 30);
        due("18: HURT", x.fighter(0, 5), 0);
        due("18: FOUGHT", x.fighter(0, 6), 0);
        due("18: WON", x.fighter(1, 7), 0);
        due("18: PURSE", x.purse(0), 0);
        due("18: SEEN", x.count(8), 0);
        due("18: SWORD stays", x.count(2), 3);
        due("18: THE RULE stays", x.strength(1, 0), 7);
        x.fight(0, 9);
        x.days(31);
        x.song(0, 100);
        x.frees(0);
        games(x, "b0");
        due("18: what was not done", x.count(11), 0);
        games(x, "d1d1d1b0");
        x.song(0, 5);
        due("18: games as one", x.count(11), 2);
        x.undo();
        x.undo();
        due("18: DAY", x.count(4), 1);
        x.days(1);
        fighters(x, "");
        seats(x, "");
        fighters(x, "x");
        seats(x, "x");
        due("18: empty and refused ones do not forget", x.count(11), 1);
        seats(x, "1,1,1");
        due("18: seats() forgets", x.undo(), -1);
        x.days(1);
        fighters(x, "n11000");
        due("18: fighters() forgets", x.undo(), -1);
        x.days(1);
        x.again(0);
        due("18: a refused again() does not forget", x.count(11), 1);
        x.keep(0);
        due("18: keep() does not forget", x.count(11), 1);
        x.again(0);
        due("18: again() forgets", x.undo(), -1);
    }

    private static void thumbs() {
        ByTheThumbs x = world(FOUR, THREE);
        due("19: all follow", x.thumbs(0), 7);
        row("19: all follow", x, 60, 1);
        due("19: none", x.thumbs(1), 0);
        row("19: none", x, 0, 0);
        due("19: none such", x.thumbs(4), -1);
        due("19: none such", x.thumbs(-1), -1);
        ByTheThumbs y = world("n11010", "5,10,0;5,11,0;1,99,2");
        due("19: PICKY or more", y.thumbs(0), 1);
        row("19: less than half", y, 5, 0);
        ByTheThumbs half = world("n11010", "5,10,0;5,11,0");
        half.thumbs(0);
        row("19: half", half, 5, 1);
        ByTheThumbs chain = world("n11000", "1,99,3;1,99,2;1,99,1;1,0,0;50,99,5");
        due("19: again and again", chain.thumbs(0), 15);
        row("19: again and again", chain, 4, 0);
        ByTheThumbs lone = world("n11000", "1,99,1");
        due("19: itself is no other", lone.thumbs(0), 0);
        ByTheThumbs nobody = world("n11000", "");
        due("19: no SEATS", nobody.thumbs(0), 0);
        row("19: no SEATS", nobody, 0, 1);
    }

    private static void mercy() {
        due("20: no SEATS", new ByTheThumbs().mercy(), 0);
        due("20: followers", world(FOUR, THREE).mercy(), 20);
        due("20: half", world("", "5,60,0;5,70,0").mercy(), 60);
        due("20: more than half needed", world("", "5,60,0;6,70,0").mercy(), 70);
        due("20: 99", world("", "1,99,0").mercy(), 99);
        due("20: 0", world("", "1,0,0").mercy(), 0);
        ByTheThumbs x = world(FOUR, THREE);
        x.thumbs(0);
        x.mercy();
        row("20: tells no ROW", x, 60, 1);
    }

    private static void claque() {
        ByTheThumbs x = world(FOUR, THREE);
        due("21: SPARED already", x.claque(0), 0);
        row("21: SPARED already", x, 0);
        due("21: one", x.claque(1), 1);
        row("21: the least", x, 1);
        due("21: none such", x.claque(4), -1);
        ByTheThumbs y = world("n11000", "1,99,0;1,99,0;1,99,0;3,99,0;4,99,0");
        due("21: two", y.claque(0), 2);
        row("21: of as few the least", y, 17);
        ByTheThumbs z = world("n11000", "1,99,0;9,99,2;1,99,0;1,99,0;1,99,0");
        due("21: the won over are followed", z.claque(0), 1);
        row("21: the big one alone", z, 2);
        ByTheThumbs w = world("n11000", "3,99,2;3,99,2;3,99,0;3,99,0;4,99,0");
        due("21: two won over lift two more", w.claque(0), 2);
        row("21: two won over lift two more", w, 5);
        due("21: no SEATS", world("n11000", "").claque(0), 0);
    }

    private static void tips() {
        ByTheThumbs x = world(FOUR, THREE);
        due("22: the followed one", x.tips(0), 1);
        row("22: the followed one", x, 1);
        due("22: none", x.tips(1), 0);
        row("22: none", x, 0);
        due("22: none such", x.tips(-1), -1);
        ByTheThumbs y = world("n11010", "5,10,0;6,11,0");
        due("22: either way", y.tips(0), 2);
        ByTheThumbs lone = world("n11010", "6,11,0");
        due("22: nobody left spares", lone.tips(0), 1);
        row("22: nobody left spares", lone, 1);
    }

    private static void would() {
        ByTheThumbs x = world("s52030;n12110", "9,50,0");
        due("23: wins and dead", x.would(0, 1), 1);
        row("23: FAVOUR, what is paid", x, 16, 104);
        due("23: as the second", x.would(1, 0), 1);
        x.set(1, 3);
        due("23: no death without means", x.would(1, 0), 0);
        row("23: as much as he has", x, 16, 3);
        due("23: nothing changes", x.count(3), 3);
        due("23: nothing is SEEN", x.count(8), 0);
        x.fight(0, 1);
        x.sheet(2, 2, 10, 20);
        x.would(1, 0);
        row("23: SEEN arms", x, 0, 0);
        x.sheet(2, 2, 97, 2);
        x.would(0, 1);
        row("23: below 0", x, 0, 0);
        x.sheet(2, 2, 99, 0);
        x.would(0, 1);
        row("23: below 0", x, -2, 0);
        due("23: like ones", x.would(0, 0), -1);
        due("23: none such", x.would(0, 2), -1);
        x.fight(0, 1);
        x.fight(0, 1);
        due("23: HURT", x.would(0, 1), -3);
        x.days(1);
        x.sheet(3, 0, 0, 0);
        x.set(1, 1000);
        x.fight(0, 1);
        due("23: DEAD", x.would(0, 1), -2);
        due("23: nothing to be undone of it", x.count(11), 5);
    }

    private static void beats() {
        ByTheThumbs x = world(FOUR, THREE);
        due("24: one", x.beats(0), 4);
        row("24: one", x, 0);
        due("24: all", x.beats(3), 7);
        due("24: none such", x.beats(4), -1);
        ByTheThumbs y = world("s52030;n12110;n12160;s52000;s52000", "9,50,0");
        due("24: of like ones the first", y.beats(0), 30);
        row("24: DEAD", y, 3);
        y.fight(0, 1);
        due("24: DEAD ones he can't fight", y.beats(0), 28);
        due("24: DEAD himself", y.beats(1), -2);
        ByTheThumbs z = world("n91000;s11000", "");
        games(z, "f01f01f01");
        due("24: HURT 9", z.beats(1), -2);
        due("24: nobody to fight", z.beats(0), 0);
        row("24: nobody to fight", z, 0);
    }

    private static void card() {
        ByTheThumbs x = world(FOUR, THREE);
        due("25: 0", x.card(0), -1);
        due("25: 5", x.card(5), -1);
        due("25: three pairs of four", x.card(3), -2);
        due("25: two pairs", x.card(2), 0);
        row("25: two pairs", x, 0, 1, 2, 3);
        // Arms n and s were seen: all pairs but of these grow by 16.
        ByTheThumbs seen = world("n91030;s11030;n91030;p11030", "");
        seen.fight(0, 1);
        due("25: the most FAVOUR", seen.card(1), 0);
        row("25: the most FAVOUR", seen, 0, 2);
        due("25: the most FAVOUR of two", seen.card(2), 0);
        row("25: the most FAVOUR of two", seen, 0, 2, 1, 3);
        // Of a pair the second or 3's foe loses and dies, but for 2, who is liked.
        ByTheThumbs dead = world("n11010;n11010;n11050;s91000", "9,50,0");
        due("25: the fewest DEAD", dead.card(1), 0);
        row("25: the fewest DEAD", dead, 0, 2);
        due("25: one must die", dead.card(2), 1);
        row("25: one must die", dead, 0, 1, 2, 3);
        games(dead, "f30");
        due("25: not so many", dead.card(2), -2);
        due("25: four pairs", world(EIGHT, "").card(4), 0);
    }

    private static void even() {
        ByTheThumbs x = world(FOUR, THREE);
        due("26: least", x.even(), 7);
        row("26: least", x, 0, 2);
        ByTheThumbs like = world("n51000;n61000;n51000;n61000", "");
        due("26: 0", like.even(), 0);
        row("26: the least row", like, 0, 2);
        ByTheThumbs far = world("n91000;n11000;s11000", "");
        rule(far, "s*999*999");
        far.fight(0, 2);
        games(far, "f02f02");
        due("26: 9999, if more", far.even(), 9999);
        row("26: who can fight", far, 0, 1);
        far.frees(1);
        ByTheThumbs wide = world("n91000;s11000;s21000", "");
        rule(wide, "(s=9)*999*999*999*2+(s=1)*-999*999*999*2");
        due("26: differences beyond ints", wide.even(), 9999);
        due("26: none", world("n11000", "").even(), -2);
    }

    private static void career() {
        ByTheThumbs x = world(FOUR, THREE);
        due("27: one", x.career(0, 1), 40);
        row("27: one", x, 2);
        due("27: two", x.career(0, 2), 46);
        row("27: two", x, 2, 1);
        due("27: 0", x.career(0, 0), -1);
        due("27: 5", x.career(0, 5), -1);
        due("27: none such", x.career(4, 1), -1);
        due("27: nothing changes", x.count(3), 1000);
        due("27: nothing is undone of it", x.count(11), 0);
        x.set(0, 2);
        due("27: FREED with the last", x.career(0, 2), 46);
        due("27: FREED ahead of the last", x.career(0, 3), -2);
        ByTheThumbs y = world("n11010;s91000", "9,50,0");
        due("27: he would be DEAD", y.career(0, 1), -2);
        y.set(1, 0);
        due("27: he would not", y.career(0, 1), 16);
        due("27: HURT 9 with the last", y.career(0, 3), 12);
        row("27: HURT 9 with the last", y, 1, 1, 1);
        due("27: HURT 9 ahead of the last", y.career(0, 4), -2);
        y.set(1, 1000);
        y.fight(1, 0);
        due("27: DEAD", y.career(0, 1), -2);
        ByTheThumbs z = world("n91010;s11000;s11000;p11000", "");
        due("27: the least row of equal ones", z.career(0, 2), 30);
        row("27: the least row of equal ones", z, 1, 3);
    }

    private static void sword() {
        ByTheThumbs x = world(FOUR, THREE);
        due("28: five", x.sword(0, 2), 5);
        due("28: like ones", x.sword(0, 0), -1);
        due("28: none such", x.sword(0, 4), -1);
        x.set(0, 1);
        due("28: one", x.sword(1, 0), 1);
        ByTheThumbs y = world("n91000;n11000", "");
        // The loser's HURT: 3, 2, 5, 4, 7, 6, 9, 8, 9 (of 11), 8, ..: he is always fit again.
        y.set(0, 9);
        due("28: nine", y.sword(0, 1), 9);
        y.fight(0, 1);
        y.fight(0, 1);
        due("28: seven more", y.sword(0, 1), 7);
        y.fight(0, 1);
        due("28: they can't fight now", y.sword(0, 1), -3);
        ByTheThumbs dead = world("n91000;n11000", "9,50,0");
        due("28: the other one is DEAD", dead.sword(0, 1), -2);
        due("28: he is DEAD", dead.sword(1, 0), -2);
        dead.set(0, 1);
        due("28: FREED with the death of the other", dead.sword(0, 1), 1);
        dead.fight(0, 1);
        due("28: they can't fight now", dead.sword(0, 1), -3);
        ByTheThumbs other = world("n91000;n11000;s11000", "");
        other.fight(1, 2);
        due("28: the other one is FREED ahead of him", other.sword(0, 1), -2);
        due("28: he is FREED ahead of the other", other.sword(1, 0), 4);
        due("28: nothing changes", other.count(4), 0);
    }

    private static void worth() {
        ByTheThumbs x = world(FOUR, THREE);
        due("29: OWNER 0", x.worth(0), 60);
        row("29: OWNER 0", x, 2, 0);
        due("29: OWNER 1", x.worth(1), 250);
        row("29: OWNER 1", x, 2, 1);
        due("29: OWNER 3", x.worth(3), 0);
        row("29: OWNER 3", x, 0, -1);
        due("29: none such", x.worth(4), -1);
        due("29: none such", x.worth(-1), -1);
        ByTheThumbs y = world("n15090;s12000;p12000", "9,50,0");
        due("29: of like ones the first", y.worth(0), 300);
        row("29: of like ones the first", y, 3, 0);
        y.frees(0);
        games(y, "f12");
        due("29: those that are HERE", y.worth(0), 200);
        row("29: those that are HERE", y, 2, 0);
    }

    private static void hires() {
        ByTheThumbs x = world(FOUR, THREE);
        due("30: 3", x.hires(3), 2);
        row("30: 3", x, 5, 3);
        due("30: 0", x.hires(0), 0);
        row("30: 0", x, 0, 0);
        due("30: 99", x.hires(99), 4);
        row("30: 99", x, 15, 8);
        due("30: -1", x.hires(-1), -1);
        due("30: 100", x.hires(100), -1);
        ByTheThumbs y = world("n12010;n12030;n12030;n12010", "");
        due("30: the most FAVOUR", y.hires(5), 2);
        row("30: the most FAVOUR", y, 6, 4);
        due("30: the least bits", y.hires(2), 1);
        row("30: the least bits", y, 2, 2);
        games(y, "f01f01f01");
        due("30: HURT 9 can't", y.hires(99), 3);
        row("30: HURT 9 can't", y, 13, 6);
    }

    private static void score() {
        ByTheThumbs x = world(FOUR, THREE);
        due("31: one", x.score(0, 1), 1);
        due("31: the same again", x.score(0, 1), 2);
        due("31: another", x.score(1, 2), 3);
        due("31: above him", x.score(1, 0), -2);
        due("31: above him through another", x.score(2, 0), -2);
        due("31: like ones", x.score(1, 1), -1);
        due("31: none such", x.score(4, 1), -1);
        due("31: none such", x.score(1, -1), -1);
        for (int i = 4; i <= 20; i++) {
            due("31: more", x.score(0, 3), i);
        }
        due("31: twenty", x.score(0, 3), -1);
        due("31: twenty, and above him", x.score(3, 0), -1);
        due("31: count", x.count(9), 20);
        due("32: wash", x.wash(), 20);
        due("32: wash again", x.wash(), 0);
        due("32: the other way then", x.score(3, 0), 1);
        ByTheThumbs y = world(EIGHT, "");
        int[][] chain = {{6, 7}, {0, 1}, {4, 5}, {2, 3}, {5, 6}, {1, 2}, {3, 4}};
        for (int[] c : chain) {
            y.score(c[0], c[1]);
        }
        due("31: above him through six others", y.score(7, 0), -2);
        due("33: one order", y.ranks(), 1);
        row("33: one order", y, 0, 1, 2, 3, 4, 5, 6, 7);
    }

    private static void ranks() {
        ByTheThumbs none = new ByTheThumbs();
        none.rests(0);
        due("33: without FIGHTERS", none.ranks(), 1);
        row("33: without FIGHTERS", none);
        due("33: eight", world(EIGHT, "").ranks(), 40320);
        ByTheThumbs x = world(FOUR, "");
        x.score(3, 0);
        x.score(2, 0);
        due("33: orders", x.ranks(), 8);
        row("33: the least", x, 1, 2, 3, 0);
        due("34: at the highest", x.stands(1, 0), 2);
        row("34: the fraction", x, 1, 4);
        due("34: never", x.stands(0, 1), 0);
        row("34: never", x, 0, 1);
        due("34: lowest", x.stands(0, 3), 6);
        row("34: lowest", x, 3, 4);
        due("34: none such", x.stands(4, 0), -1);
        due("34: no such place", x.stands(0, 4), -1);
        due("34: no such place", x.stands(0, -1), -1);
        due("34: alone", world("n11000", "").stands(0, 0), 1);
        due("34: nobody", new ByTheThumbs().stands(0, 0), -1);
        ByTheThumbs dead = world("n91000;s11000", "9,50,0");
        dead.fight(0, 1);
        due("33: DEAD ones too", dead.ranks(), 2);
    }

    private static void places() {
        ByTheThumbs x = world(FOUR, "");
        x.score(3, 0);
        x.score(2, 3);
        due("35: below two", x.places(0), 23);
        due("35: between", x.places(3), 12);
        due("35: above two", x.places(2), 1);
        due("35: free", x.places(1), 3);
        due("35: none such", x.places(4), -1);
        due("35: none such", x.places(-1), -1);
        due("35: alone", world("n11000", "").places(0), 0);
    }

    private static void watch() {
        due("36: nobody", new ByTheThumbs().watch(), -2);
        due("36: alone", world("n11000", "").watch(), -2);
        ByTheThumbs x = world(FOUR, "");
        due("36: all alike", x.watch(), 12);
        row("36: all alike", x, 0, 1);
        x.score(0, 1);
        x.score(1, 2);
        due("36: the middle one", x.watch(), 2);
        row("36: the middle one", x, 1, 3);
        x.score(2, 3);
        due("36: one order alone", x.watch(), -2);
        row("36: refused", x, 1, 3);
    }

    private static void odds() {
        ByTheThumbs x = new ByTheThumbs();
        due("37: 1 of 2", x.odds(2, 1, 5), 0);
        row("37: 1 of 2", x, 3, 4);
        x.odds(10, 0, 3);
        row("37: 0 or more", x, 1, 1);
        x.odds(1, 2, 10);
        row("37: more than n", x, 0, 1);
        x.odds(10, 10, 10);
        row("37: sure", x, 1, 1);
        x.odds(3, 1, 0);
        row("37: never", x, 0, 1);
        x.odds(10, 10, 1);
        row("37: rare", x, 1, 10000000000L);
        x.odds(3, 2, 7);
        row("37: 2 of 3", x, 98, 125);
        int[][] bad = {{0, 1, 1}, {11, 1, 1}, {1, -1, 1}, {1, 11, 1}, {1, 1, -1}, {1, 1, 11}};
        for (int[] b : bad) {
            due("37: refused", x.odds(b[0], b[1], b[2]), -1);
        }
        row("37: refused", x, 98, 125);
    }

    private static void till() {
        ByTheThumbs x = new ByTheThumbs();
        due("38: once", x.till(1, 1, 3), 0);
        row("38: once", x, 3, 10);
        x.till(2, 1, 5);
        row("38: twice", x, 1, 4);
        x.till(1, 2, 5);
        row("38: one of two", x, 3, 4);
        x.till(6, 6, 5);
        row("38: even", x, 1, 2);
        x.till(6, 1, 1);
        row("38: six at a stretch", x, 1, 1000000);
        x.till(3, 2, 0);
        row("38: never", x, 0, 1);
        x.till(6, 6, 10);
        row("38: sure", x, 1, 1);
        x.till(6, 6, 1);
        row("38: rare", x, 1848163L, 6250000000L);
        int[][] bad = {{0, 1, 1}, {7, 1, 1}, {1, 0, 1}, {1, 7, 1}, {1, 1, -1}, {1, 1, 11}};
        for (int[] b : bad) {
            due("38: refused", x.till(b[0], b[1], b[2]), -1);
        }
    }

    private static void heard() {
        ByTheThumbs x = world(FOUR, THREE);
        due("41: nothing heard", x.fits(), 15);
        row("41: nothing heard", x, 4);
        due("39: FAVOUR 15 or more", x.heard(1, 15), 1);
        due("41: FAVOUR", x.fits(), 7);
        due("39: OWNER", x.heard(2, 0), 2);
        due("41: OWNER", x.fits(), 5);
        row("41: OWNER", x, 2);
        due("39: HIRE 1 or less", x.heard(3, 1), 3);
        due("41: HIRE", x.fits(), 4);
        due("39: ARMS", x.heard(0, 0), 4);
        due("41: none", x.fits(), 0);
        row("41: none", x, 0);
        due("40: forget", x.forget(), 4);
        due("40: forget again", x.forget(), 0);
        int[][] bad = {{0, -1}, {0, 4}, {1, -1}, {1, 100}, {2, -1}, {2, 4}, {3, 0}, {3, 10}, {4, -1}, {4, 2}, {5, 0}, {-1, 0}};
        for (int[] b : bad) {
            due("39: heard(" + b[0] + ", " + b[1] + ")", x.heard(b[0], b[1]), -1);
        }
        for (int i = 1; i <= 12; i++) {
            due("39: more", x.heard(1, 0), i);
        }
        due("39: twelve", x.heard(1, 0), -1);
        due("39: count", x.count(10), 12);
        ByTheThumbs dead = world("n91000;s11000", "9,50,0");
        dead.fight(0, 1);
        dead.heard(4, 1);
        due("41: DEAD", dead.fits(), 2);
        dead.forget();
        dead.heard(4, 0);
        due("41: not DEAD", dead.fits(), 1);
    }

    private static void ask() {
        ByTheThumbs x = world("n13000;n13000;n17000;n19000", "");
        due("42: halves", x.ask(), 3);
        row("42: halves", x, 2);
        ByTheThumbs y = world("n12000;n15000;s19000", "");
        due("42: one and two", y.ask(), 2);
        row("42: one and two", y, 2);
        y.heard(0, 1);
        due("42: one alone", y.ask(), 1);
        row("42: one alone", y, 1);
        y.heard(0, 0);
        due("42: none fits", y.ask(), -2);
        due("42: no FIGHTERS", new ByTheThumbs().ask(), -2);
    }

    private static void rests() {
        ByTheThumbs x = new ByTheThumbs();
        due("43: 0", x.rests(0), 10);
        row("43: 0", x, 0, 0);
        // Half of 1 is 0: to break a minute earlier is as good, so that both may be a minute apart.
        due("43: 1", x.rests(1), 28);
        row("43: 1", x, 0, 0);
        due("43: 2", x.rests(2), 10);
        due("43: 3", x.rests(3), 1);
        row("43: 3", x, 0, 0);
        due("43: 99", x.rests(99), 1);
        due("43: 100", x.rests(100), -1);
        due("43: -1", x.rests(-1), -1);
    }

    private static void law() {
        ByTheThumbs x = world(FOUR, THREE);
        x.rests(0);
        due("44: the same", law(x, ""), 0);
        row("44: the same", x);
        due("44: turned round", law(x, "9-s"), 6);
        row("44: turned round", x, 0, 1);
        due("44: THE RULE stays", x.strength(1, 0), 73);
        due("44: all alike: the first wins", law(x, "1"), 4);
        row("44: all alike", x, 0, 1);
        rule(x, "9-s");
        due("44: none against THE RULE", law(x, ""), 6);
        due("44: a bad sign", law(x, "x"), -10000);
        due("44: an end too early", law(x, "s+"), -10002);
        due("44: forty-one", law(x, "1-------------------------------------------2"), -10040);
        row("44: refused", x, 0, 1);
        due("44: the text is emptied", x.count(13), 0);
        due("44: THE RULE stays", x.strength(1, 0), 2);
        ByTheThumbs here = world("n91000;s11000;p51000", "9,50,0");
        here.fight(0, 1);
        due("44: those that are HERE", law(here, "9-s"), 1);
        row("44: those that are HERE", here, 0, 2);
        ByTheThumbs hurt = world("n91000;s11000", "");
        games(hurt, "f01f01f01");
        due("44: HURT 9 is HERE", law(hurt, "9-s"), 1);
    }

    private static void years() {
        due("45: no FIGHTERS", new ByTheThumbs().years(1, 5), -2);
        due("45: no FIGHTERS, another n", new ByTheThumbs().years(1, 0), -2);
        ByTheThumbs one = world("n11000", "");
        due("45: alone", one.years(1, 60), 0);
        row("45: alone", one, 0, 0, 1000);
        due("45: 0", one.years(1, 0), -1);
        due("45: 61", one.years(1, 61), -1);
        ByTheThumbs x = world("n51000;s31000", "");
        int r = 0;
        int fought = 0;
        ByTheThumbs twin = world("n51000;s31000", "");
        for (int time = 1; time <= 7; time++) {
            r = r * 1103515245 + 12345;
            int a = (int) (Integer.toUnsignedLong(r) / 65536 % 2);
            r = r * 1103515245 + 12345;
            int b = (int) (Integer.toUnsignedLong(r) / 65536 % 2);
            fought += twin.fight(a, b) >= 0 ? 1 : 0;
            if (time % 3 == 0) {
                twin.days(1);
            }
        }
        due("45: as the calls do", x.years(0, 7), fought);
        row("45: as the calls do", x, Integer.bitCount(twin.count(6)), Integer.bitCount(twin.count(7)), twin.count(3));
        due("45: nothing changes", x.count(3), 1000);
        due("45: no DAY", x.count(4), 0);
        due("45: nothing to be undone", x.count(11), 0);
        ByTheThumbs dead = world("n91000;s11000", "9,50,0");
        dead.fight(0, 1);
        dead.years(7, 60);
        row("45: more DEAD than now", dead, 0, 0, 948);
    }

    private static void keepAgain() {
        ByTheThumbs x = world(FOUR, THREE);
        due("47: nothing kept", x.again(0), false);
        due("46: 2", x.keep(2), false);
        due("46: -1", x.keep(-1), false);
        due("46: 0", x.keep(0), true);
        due("47: nothing kept under 1", x.again(1), false);
        due("47: 2", x.again(2), false);
        due("47: -1", x.again(-1), false);
        x.fight(0, 1);
        x.set(0, 7);
        x.score(0, 1);
        due("46: 1", x.keep(1), true);
        x.days(5);
        due("47: 0", x.again(0), true);
        due("47: MEANS", x.count(3), 1000);
        due("47: SEEN", x.count(8), 0);
        due("47: HURT", x.fighter(0, 5), 0);
        due("47: PURSE", x.purse(1), 0);
        due("47: SWORD stays", x.count(2), 7);
        due("47: scores stay", x.count(9), 1);
        due("47: 1", x.again(1), true);
        due("47: MEANS", x.count(3), 995);
        due("47: DAY", x.count(4), 0);
        due("47: 0 again", x.again(0), true);
        x.song(0, 9);
        due("46: over it", x.keep(0), true);
        x.song(0, 9);
        x.again(0);
        due("47: MEANS", x.count(3), 991);
        seats(x, "");
        fighters(x, "x");
        due("47: nothing came", x.again(0), true);
        seats(x, "1,1,1");
        due("47: SEATS came", x.again(0), false);
        due("47: SEATS came", x.again(1), false);
        x.keep(0);
        due("47: kept since", x.again(0), true);
        fighters(x, "n11000");
        due("47: FIGHTERS came", x.again(0), false);
    }

    private static void count() {
        ByTheThumbs x = world("n91000;s11000;p51000", "9,50,0;1,1,1");
        x.set(0, 3);
        x.fight(0, 1);
        x.days(4);
        x.score(0, 1);
        x.score(0, 2);
        x.heard(0, 0);
        x.sign(0);
        x.frees(2);
        long[] want = {3, 2, 3, 948, 4, 1, 2, 4, 1, 2, 1, 3, 4, 4};
        for (int what = 0; what < want.length; what++) {
            due("48: count(" + what + ")", x.count(what), want[what]);
        }
        due("48: 14", x.count(14), -1);
        due("48: -1", x.count(-1), -1);
    }

    private static void row() {
        ByTheThumbs x = world(FOUR, THREE);
        int[] none = {0, -1, Integer.MAX_VALUE, Integer.MIN_VALUE, 4};
        for (int i : none) {
            if (i == 4) {
                x.fight(0, 1);
                due("49: row(3)", x.row(3), 995);
            }
            boolean thrown = false;
            try {
                x.row(i);
            } catch (NoSuchElementException e) {
                thrown = true;
            }
            due("49: row(" + i + ") throws", thrown, true);
        }
        x.odds(10, 10, 1);
        due("49: beyond ints", x.row(1), 10000000000L);
    }

    private static void rowStaysWhenRefused() {
        ByTheThumbs x = world(FOUR, THREE);
        x.odds(2, 1, 5);
        x.fight(0, 0);
        x.thumbs(9);
        x.claque(9);
        x.tips(9);
        x.would(0, 0);
        x.beats(9);
        x.card(4);
        x.career(9, 1);
        x.worth(9);
        x.hires(-1);
        x.stands(9, 0);
        x.till(0, 0, 0);
        x.rests(-1);
        law(x, "?");
        x.years(1, 0);
        games(x, "?");
        x.places(0);
        x.sword(0, 1);
        x.score(0, 1);
        x.days(1);
        x.undo();
        row("2 of the Terms", x, 3, 4);
    }
}
