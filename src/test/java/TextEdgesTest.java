/** Promises 1 to 6, 17 and 44 as far as texts go: every sign at every kind of place, the longest texts, the full and the empty case. */
public final class TextEdgesTest {
    private static final String LETTERS = "shwflaed";
    private static final String DIGITS = "0123456789";
    private static final String NOT_ZERO = "123456789";
    private static final String OPERATORS = "+-*/<>=";

    public static void main(String[] args) {
        newObject();
        signs();
        signsOfEveryByte();
        ends();
        fighterSigns();
        fighterRoom();
        fighterLengths();
        fighterRefusals();
        seatSigns();
        seatPeopleNothing();
        seatRoom();
        seatLengths();
        seatRefusals();
        ruleSigns();
        ruleBrackets();
        ruleLengths();
        ruleRefusals();
        lawSigns();
        gameSigns();
        gameLengths();
        gameRefusals();
        emptyTexts();
        Sand.finish();
    }

    private interface Reader {
        int read(ByTheThumbs x, String text);
    }

    /** Behind the prefix, each of 256 signs that is not among those that can stand is wrong at its place. */
    private static void standing(String what, Reader reader, String prefix, String can) {
        for (char c = 0; c < 256; c++) {
            if (can.indexOf(c) < 0) {
                String text = prefix + c;
                Sand.due(what + " of " + prefix + " and sign " + (int) c, reader.read(new ByTheThumbs(), text), -1 - prefix.length());
            }
        }
    }

    /** Behind the prefix each of these can stand, but it ends too early then. */
    private static void goingOn(String what, Reader reader, String prefix, String can) {
        for (char c : can.toCharArray()) {
            Sand.due(what + " of " + prefix + c + ", an end too early", reader.read(new ByTheThumbs(), prefix + c), -2 - prefix.length());
        }
    }

    /** Behind the prefix each of these can stand, and it can end then. */
    private static void ending(String what, Reader reader, String prefix, String can, int answer) {
        for (char c : can.toCharArray()) {
            Sand.due(what + " of " + prefix + c, reader.read(new ByTheThumbs(), prefix + c), answer);
        }
    }

    // ---- 1: a new object

    private static void newObject() {
        ByTheThumbs x = new ByTheThumbs();
        Sand.due("1: no FIGHTERS", x.count(0), 0);
        Sand.due("1: no FIGHTER 0", Sand.isThrown(y -> y.fighter(0, 0), x), true);
        Sand.due("1: no SEATS", x.count(1), 0);
        Sand.due("1: no SEAT 0", Sand.isThrown(y -> y.seat(0, 0), x), true);
        Sand.due("1: SWORD at first 5", x.count(2), 5);
        Sand.due("1: MEANS at first 1000", x.count(3), 1000);
        Sand.due("1: DAY at first 0", x.count(4), 0);
        for (int owner = 0; owner < 4; owner++) {
            Sand.due("1: PURSES at first 0", x.purse(owner), 0);
        }
        for (int what = 5; what <= 13; what++) {
            Sand.due("1: count(" + what + ") at first", x.count(what), 0);
        }
        Sand.due("1: an empty ROW", Sand.isThrown(y -> y.row(0), x), true);
        Sand.due("1: nothing to undo", x.undo(), -1);
        Sand.due("1: nothing kept under 0", x.again(0), false);
        Sand.due("1: nothing kept under 1", x.again(1), false);
        Sand.fighters(x, "n41030;l21030");
        Sand.due("1: THE RULE at first is s*10-h*6+w*2+(a>e)*3", x.strength(1, 0), 23);
        for (int what = 5; what <= 8; what++) {
            Sand.due("1: HURT, FOUGHT, WON at first 0, HERE at first", x.fighter(0, what), 0);
        }
        Sand.due("two objects share nothing", new ByTheThumbs().count(0), 0);
    }

    // ---- 2, 3: THE TEXT

    private static void signs() {
        for (int size = 73; size <= 80; size++) {
            ByTheThumbs x = new ByTheThumbs();
            Sand.put(x, Sand.times(40, "d1").substring(0, size));
            boolean room = size <= 76;
            Sand.due("2: sign() behind " + size, x.sign(0x64326432), room ? size + 4 : -1);
            Sand.due("2: so many it has", x.count(13), room ? size + 4 : size);
            x.end(60);
            Sand.due("2: what was there stays", x.games(), 30);
            Sand.due("2: as it was", x.count(4), 30);
        }
        String full = Sand.times(40, "d1");
        Sand.refused("2: refused at 80", () -> textOf(full), x -> x.sign(0x64326432), -1);
        Sand.refused("2: refused at 77", () -> textOf(full.substring(3)), x -> x.sign(-1), -1);
        ByTheThumbs x = new ByTheThumbs();
        Sand.due("2: the highest byte first", x.sign('d' << 24 | '3' << 16 | 'd' << 8 | '4'), 4);
        x.end(2);
        Sand.due("2: the first two are d3", x.games() * 10 + x.count(4), 13);
    }

    private static ByTheThumbs textOf(String text) {
        ByTheThumbs x = Sand.mixed();
        Sand.put(x, text);
        return x;
    }

    private static void signsOfEveryByte() {
        // A sign has 8 bits: none of the higher ones is lost.
        for (int high = 128; high < 256; high += 128) {
            ByTheThumbs x = new ByTheThumbs();
            Sand.put(x, String.valueOf((char) ('d' + high)) + "1");
            Sand.due("2: a sign above 127 is not the one below", x.games(), -1);
        }
        ByTheThumbs y = new ByTheThumbs();
        int[] wild = {0, -1, Integer.MIN_VALUE, Integer.MAX_VALUE};
        for (int i = 0; i < wild.length; i++) {
            Sand.due("2: any four bytes", y.sign(wild[i]), 4 * i + 4);
        }
    }

    private static void ends() {
        int[] never = {-1, Integer.MIN_VALUE, 7, 8, 80, 81, Integer.MAX_VALUE};
        for (int n : never) {
            Sand.refused("3: end(" + n + ") of 6", x -> x.end(n) ? 1 : 0, 0);
        }
        Sand.refused("3: end(6) of 6 changes nothing, but is true", x -> x.end(6) ? 1 : 0, 1);
        ByTheThumbs x = Sand.mixed();
        Sand.due("3: end(0)", x.end(0), true);
        Sand.due("3: no signs", x.count(13), 0);
        Sand.due("3: end(0) of none", x.end(0), true);
        Sand.due("3: end(1) of none", x.end(1), false);
        Sand.due("3: end(-1) of none", x.end(-1), false);
        ByTheThumbs y = new ByTheThumbs();
        Sand.put(y, "d1d2");
        Sand.due("3: the first two alone", y.end(2), true);
        Sand.due("3: what is cut does not come back", y.end(4), false);
        Sand.due("3: signs come behind", y.sign('d' << 24 | '3' << 16 | 'd' << 8 | '4'), 6);
        Sand.due("3: d1d3d4", y.games(), 3);
        Sand.due("3: d1d3d4", y.count(4), 8);
    }

    // ---- 4: fighters

    private static void fighterSigns() {
        Reader reader = Sand::fighters;
        standing("4: ARMS", reader, "", "nspl");
        goingOn("4: ARMS", reader, "", "nspl");
        standing("4: SKILL", reader, "n", NOT_ZERO);
        goingOn("4: SKILL", reader, "n", NOT_ZERO);
        standing("4: HIRE", reader, "n1", NOT_ZERO);
        goingOn("4: HIRE", reader, "n1", NOT_ZERO);
        standing("4: OWNER", reader, "n11", "0123");
        goingOn("4: OWNER", reader, "n11", "0123");
        standing("4: FAVOUR", reader, "n110", DIGITS);
        ending("4: FAVOUR", reader, "n110", DIGITS, 1);
        standing("4: behind one digit", reader, "n1105", DIGITS + ";");
        ending("4: FAVOUR of two digits", reader, "n1105", DIGITS, 1);
        goingOn("4: a LINE goes on", reader, "n1105", ";");
        standing("4: behind two digits", reader, "n11055", ";");
        goingOn("4: a LINE goes on", reader, "n11055", ";");
        standing("4: the next LINE", reader, "n11055;", "nspl");
        goingOn("4: the next LINE", reader, "n11055;", "nspl");
        standing("4: SKILL of the next LINE", reader, "n1105;s", NOT_ZERO);
        for (int digit = 1; digit <= 9; digit++) {
            ByTheThumbs x = Sand.world("l" + digit + (10 - digit) + digit % 4 + digit + ";p1103" + digit, "");
            Sand.due("4: SKILL", x.fighter(0, 1), digit);
            Sand.due("4: HIRE", x.fighter(0, 2), 10 - digit);
            Sand.due("4: OWNER", x.fighter(0, 3), digit % 4);
            Sand.due("4: FAVOUR of one digit", x.fighter(0, 4), digit);
            Sand.due("4: FAVOUR of two digits", x.fighter(1, 4), 30 + digit);
        }
        String[] favours = {"0", "00", "09", "90", "99"};
        int[] want = {0, 0, 9, 90, 99};
        for (int i = 0; i < favours.length; i++) {
            Sand.due("4: FAVOUR " + favours[i], Sand.world("n110" + favours[i], "").fighter(0, 4), want[i]);
        }
        for (int arms = 0; arms < 4; arms++) {
            Sand.due("4: ARMS", Sand.world("nspl".charAt(arms) + "1100", "").fighter(0, 0), arms);
        }
    }

    private static void fighterRoom() {
        for (int here = 0; here <= 8; here++) {
            for (int more = 1; more <= 10; more++) {
                ByTheThumbs x = new ByTheThumbs();
                Sand.fighters(x, Sand.EIGHT.substring(0, Math.max(0, 7 * here - 1)));
                int answer = Sand.fighters(x, Sand.times(more, ";s5533").substring(1));
                boolean room = here + more <= 8;
                String what = "4: " + more + " LINES, when there are " + here;
                Sand.due(what, answer, room ? more : -1 - 6 * (8 - here));
                Sand.due(what + ": so many are there", x.count(0), room ? here + more : here);
                if (room) {
                    Sand.due(what + ": each one more", x.fighter(here, 1), 5);
                }
            }
        }
        ByTheThumbs full = Sand.world(Sand.EIGHT, "");
        Sand.due("4: full, nothing told", Sand.fighters(full, ""), 0);
        Sand.due("4: full, a bad sign", Sand.fighters(full, "x"), -1);
        ByTheThumbs seven = Sand.world(Sand.EIGHT.substring(7), "");
        Sand.due("4: one more and ;", Sand.fighters(seven, "n1100;"), -7);
        Sand.due("4: one more and a bad LINE", Sand.fighters(seven, "n1100;x"), -7);
        Sand.due("4: a bad LINE ahead of the one without room", Sand.fighters(seven, "n0100;n1100"), -2);
        Sand.due("4: seven still", seven.count(0), 7);
        Sand.due("4: the eighth", Sand.fighters(seven, "l99399"), 1);
        Sand.due("4: the last FIGHTER", seven.fighter(7, 4), 99);
    }

    private static void fighterLengths() {
        String line = "n11055;";
        Sand.due("4: the longest that can come has 55 signs", Sand.fighters(new ByTheThumbs(), Sand.EIGHT), 8);
        for (int size = 57; size <= 80; size++) {
            String text = Sand.times(12, line).substring(0, size);
            Sand.due("4: " + size + " signs: the ninth LINE is ahead of the 62nd", Sand.fighters(new ByTheThumbs(), text), -57);
        }
        for (int size = 1; size <= 55; size++) {
            boolean whole = size % 7 == 5 || size % 7 == 6;
            int answer = Sand.fighters(new ByTheThumbs(), Sand.times(8, line).substring(0, size));
            Sand.due("4: cut at " + size, answer, whole ? size / 7 + 1 : -1 - size);
        }
        String bad = Sand.times(8, line).substring(0, 40) + "x" + Sand.times(8, line).substring(0, 39);
        Sand.due("4: 80 signs, a bad one first", Sand.fighters(new ByTheThumbs(), bad), -41);
    }

    private static void fighterRefusals() {
        String[] bad = {"x", "n", "n11", "n1100;", "n1100;s1100;p0100", "n11000;n11000;n11000;n11000", "n1140", "n110999"};
        int[] at = {0, 1, 3, 6, 13, 21, 3, 6};
        for (int i = 0; i < bad.length; i++) {
            Sand.refusedText("4: " + bad[i] + ", nothing of it comes", bad[i], x -> x.fighters(), -1 - at[i]);
        }
    }

    // ---- 5: seats

    private static void seatSigns() {
        Reader reader = Sand::seats;
        standing("5: PEOPLE", reader, "", NOT_ZERO);
        goingOn("5: PEOPLE", reader, "", NOT_ZERO);
        standing("5: behind one digit", reader, "1", DIGITS + ",");
        goingOn("5: behind one digit", reader, "1", DIGITS + ",");
        standing("5: behind two digits", reader, "10", ",");
        goingOn("5: behind two digits", reader, "10", ",");
        standing("5: PICKY", reader, "1,", DIGITS);
        goingOn("5: PICKY", reader, "1,", DIGITS);
        standing("5: behind one digit", reader, "1,0", DIGITS + ",");
        goingOn("5: behind one digit", reader, "1,0", DIGITS + ",");
        standing("5: behind two digits", reader, "1,00", ",");
        goingOn("5: behind two digits", reader, "1,00", ",");
        standing("5: FOLLOWS", reader, "1,0,", DIGITS);
        ending("5: FOLLOWS", reader, "1,0,", DIGITS, 1);
        standing("5: behind FOLLOWS", reader, "1,0,5", ";");
        goingOn("5: behind FOLLOWS", reader, "1,0,5", ";");
        standing("5: the next LINE", reader, "1,0,5;", NOT_ZERO);
        goingOn("5: the next LINE", reader, "1,0,5;", NOT_ZERO);
        String[] told = {"1,0,0", "01,00,9", "99,99,5", "9,9,1", "10,10,0"};
        int[][] want = {{1, 0, 0}, {1, 0, 9}, {99, 99, 5}, {9, 9, 1}, {10, 10, 0}};
        for (int i = 0; i < told.length; i++) {
            ByTheThumbs x = Sand.world("", told[i]);
            for (int what = 0; what < 3; what++) {
                Sand.due("5: " + told[i] + ", " + what, x.seat(0, what), want[i][what]);
            }
        }
    }

    private static void seatPeopleNothing() {
        for (char c = 0; c < 256; c++) {
            int want = c == '0' ? -2 : c >= '1' && c <= '9' ? -3 : -1;
            Sand.due("5: 0 and sign " + (int) c, Sand.seats(new ByTheThumbs(), "0" + c), want);
        }
        Sand.due("5: PEOPLE 0 at its last digit", Sand.seats(new ByTheThumbs(), "0,5,5"), -1);
        Sand.due("5: PEOPLE 00 at its last digit", Sand.seats(new ByTheThumbs(), "00,5,5"), -2);
        Sand.due("5: PEOPLE 00 ahead of a third digit", Sand.seats(new ByTheThumbs(), "000"), -2);
        Sand.due("5: PEOPLE 0 in the next LINE", Sand.seats(new ByTheThumbs(), "5,5,5;0,5,5"), -7);
        Sand.due("5: PEOPLE 00 in the next LINE", Sand.seats(new ByTheThumbs(), "5,5,5;00,5,5"), -8);
        Sand.due("5: PEOPLE 0, where it ends", Sand.seats(new ByTheThumbs(), "5,5,5;0"), -7);
    }

    private static void seatRoom() {
        for (int here = 0; here <= 8; here++) {
            for (int more = 1; more <= 10; more++) {
                ByTheThumbs x = new ByTheThumbs();
                Sand.seats(x, Sand.times(here, ";1,1,1").substring(Math.min(1, here)));
                int answer = Sand.seats(x, Sand.times(more, ";50,5,0").substring(1));
                boolean room = here + more <= 8;
                String what = "5: " + more + " LINES, when there are " + here;
                Sand.due(what, answer, room ? more : -1 - 7 * (8 - here));
                Sand.due(what + ": so many are there", x.count(1), room ? here + more : here);
                if (room) {
                    Sand.due(what + ": each one more", x.seat(here, 0), 50);
                }
            }
        }
        ByTheThumbs full = Sand.world("", Sand.times(8, ";1,1,1").substring(1));
        Sand.due("5: full, nothing told", Sand.seats(full, ""), 0);
        Sand.due("5: full, a bad sign", Sand.seats(full, "x"), -1);
        Sand.due("5: full, PEOPLE 00: the LINE's first sign", Sand.seats(full, "00,1,1"), -1);
    }

    private static void seatLengths() {
        String line = "10,10,1;";
        Sand.due("5: the longest that can come has 63 signs", Sand.seats(new ByTheThumbs(), Sand.times(8, line).substring(0, 63)), 8);
        for (int size = 65; size <= 80; size++) {
            String text = Sand.times(10, line).substring(0, size);
            Sand.due("5: " + size + " signs: the ninth LINE is ahead of the 76th", Sand.seats(new ByTheThumbs(), text), -65);
        }
        for (int size = 1; size <= 64; size++) {
            boolean whole = size % 8 == 7;
            int answer = Sand.seats(new ByTheThumbs(), Sand.times(8, line).substring(0, size));
            Sand.due("5: cut at " + size, answer, whole ? size / 8 + 1 : -1 - size);
        }
    }

    private static void seatRefusals() {
        String[] bad = {"x", "0", "00,1,1", "1", "1,1,1;", "1,1,1;2,2,2;3,3", "1,1,1;1,1,1;1,1,1;1,1,1;1,1,1;1,1,1;1,1,1", "100,1,1"};
        int[] at = {0, 0, 1, 1, 6, 15, 36, 2};
        for (int i = 0; i < bad.length; i++) {
            Sand.refusedText("5: " + bad[i] + ", nothing of it comes", bad[i], x -> x.seats(), -1 - at[i]);
        }
    }

    // ---- 6: rule

    private static void ruleSigns() {
        Reader reader = Sand::rule;
        ruleThings(reader);
        standing("6: behind a letter", reader, "s", OPERATORS);
        goingOn("6: behind a letter", reader, "s", OPERATORS);
        standing("6: behind a digit", reader, "1", OPERATORS + DIGITS);
        ending("6: two digits", reader, "1", DIGITS, 0);
        ending("6: three digits", reader, "12", DIGITS, 0);
        standing("6: behind three digits", reader, "123", OPERATORS);
        goingOn("6: behind three digits", reader, "123", OPERATORS);
        standing("6: behind a letter in brackets", reader, "(s", OPERATORS + ")");
        ending("6: brackets", reader, "(s", ")", 0);
        standing("6: behind brackets", reader, "(s)", OPERATORS);
        goingOn("6: behind brackets", reader, "(s)", OPERATORS);
        for (String compared : new String[] {"s<h", "s>h", "s=h", "s<h+1", "s=h*2", "s>-h", "1+1<w"}) {
            standing("6: not one behind the other", reader, compared, "+-*/" + (compared.endsWith("1") || compared.endsWith("2") ? DIGITS : ""));
            goingOn("6: other operators behind a comparison", reader, compared, "+-*/");
        }
        standing("6: not one behind the other, in brackets", reader, "(s<h", "+-*/)");
        for (char c : "<>=".toCharArray()) {
            Sand.due("6: one behind brackets", Sand.rule(new ByTheThumbs(), "(s<h)" + c + "(h=s)"), 0);
            Sand.due("6: one in brackets behind one", Sand.rule(new ByTheThumbs(), "s<(h" + c + "s)"), 0);
        }
    }

    /** Where a thing is due, these can stand; an end is too early there. */
    private static void ruleThings(Reader reader) {
        String[] prefixes = {"s+", "s-", "s*", "s/", "s<", "s>", "s=", "-", "--", "s*-", "(", "(-", "((", "(((", "1+(", "s+(2)*"};
        standing("6: a thing", reader, "", LETTERS + DIGITS + "-(");
        goingOn("6: a thing", reader, "", "-(");
        ending("6: a thing", reader, "", LETTERS + DIGITS, 0);
        for (String prefix : prefixes) {
            standing("6: a thing", reader, prefix, LETTERS + DIGITS + "-(");
            goingOn("6: a thing", reader, prefix, "-(");
            if (prefix.indexOf('(') >= 0 && prefix.indexOf(')') < 0) {
                goingOn("6: brackets that are not closed", reader, prefix, LETTERS + DIGITS);
            } else {
                ending("6: a thing", reader, prefix, LETTERS + DIGITS, 0);
            }
            Sand.due("6: " + prefix + " ends too early", Sand.rule(new ByTheThumbs(), prefix), -1 - prefix.length());
        }
    }

    private static void ruleBrackets() {
        Reader reader = Sand::rule;
        Sand.due("6: four in one another", Sand.rule(new ByTheThumbs(), "((((s))))"), 0);
        standing("6: not five", reader, "((((", LETTERS + DIGITS + "-");
        Sand.due("6: not five", Sand.rule(new ByTheThumbs(), "(((((s)))))"), -5);
        Sand.due("6: not five behind -", Sand.rule(new ByTheThumbs(), "((((-(s)))))"), -6);
        Sand.due("6: not five behind more", Sand.rule(new ByTheThumbs(), "1+(2*(3-(4<(5/(6)))))"), -15);
        Sand.due("6: four, and four behind", Sand.rule(new ByTheThumbs(), "((((s))))+((((h))))"), 0);
        Sand.due("6: four, and a fourth again", Sand.rule(new ByTheThumbs(), "(((1+(s)-(h))))"), 0);
        for (int closed = 0; closed < 4; closed++) {
            String text = "((((s" + Sand.times(closed, ")");
            Sand.due("6: " + text, Sand.rule(new ByTheThumbs(), text), -1 - text.length());
        }
        Sand.due("6: five closed", Sand.rule(new ByTheThumbs(), "((((s)))))"), -10);
        Sand.due("6: closed, but not opened", Sand.rule(new ByTheThumbs(), "s)"), -2);
        Sand.due("6: nothing in them", Sand.rule(new ByTheThumbs(), "()"), -2);
    }

    private static void ruleLengths() {
        lengths("6", Sand::rule, -1);
        Sand.due("6: forty signs tell a RULE", strengthBy(Sand.times(18, "s+") + "s+99"), 19 * 2 + 99);
        Sand.due("6: thirty-nine -", strengthBy(Sand.times(39, "-") + "s"), -2);
        Sand.due("6: thirty-eight -", strengthBy(Sand.times(38, "-") + "s"), 2);
        Sand.due("6: forty -, then a thing", Sand.rule(new ByTheThumbs(), Sand.times(40, "-") + "s"), -41);
        Sand.due("6: forty -", Sand.rule(new ByTheThumbs(), Sand.times(40, "-")), -41);
        Sand.due("6: thirty-nine -", Sand.rule(new ByTheThumbs(), Sand.times(39, "-")), -40);
    }

    /** Forty is the last that is allowed; a fault ahead of it goes first; what could go on or end is wrong at 40. */
    private static void lengths(String what, Reader reader, int first) {
        String sum = Sand.times(30, "s+");
        Sand.due(what + ": 39", reader.read(new ByTheThumbs(), sum.substring(0, 39)), 0);
        Sand.due(what + ": 40", reader.read(new ByTheThumbs(), "-" + sum.substring(0, 39)), 0);
        Sand.due(what + ": 40, it ends too early", reader.read(new ByTheThumbs(), sum.substring(0, 40)), first - 40);
        Sand.due(what + ": 41, 40 could go on", reader.read(new ByTheThumbs(), sum.substring(0, 41)), first - 40);
        Sand.due(what + ": 41, 40 could end", reader.read(new ByTheThumbs(), "-" + sum.substring(0, 40)), first - 40);
        Sand.due(what + ": 41, a number goes over it", reader.read(new ByTheThumbs(), sum.substring(0, 38) + "123"), first - 40);
        Sand.due(what + ": 40 with a number", reader.read(new ByTheThumbs(), sum.substring(0, 38) + "12"), 0);
        Sand.due(what + ": 41, brackets go over it", reader.read(new ByTheThumbs(), sum.substring(0, 38) + "(s)"), first - 40);
        Sand.due(what + ": 41, the sign at 40 is bad too", reader.read(new ByTheThumbs(), sum.substring(0, 40) + "x"), first - 40);
        Sand.due(what + ": 41, the sign at 39 is bad", reader.read(new ByTheThumbs(), sum.substring(0, 39) + "xs"), first - 39);
        Sand.due(what + ": 41, the sign at 38 is bad", reader.read(new ByTheThumbs(), sum.substring(0, 38) + "x+s"), first - 38);
        Sand.due(what + ": 80", reader.read(new ByTheThumbs(), sum + sum.substring(0, 20)), first - 40);
        Sand.due(what + ": 80, the first is bad", reader.read(new ByTheThumbs(), "x" + sum + sum.substring(0, 19)), first);
    }

    private static int strengthBy(String rule) {
        ByTheThumbs x = Sand.world("n21000;s31000", "");
        Sand.due("6: " + rule, Sand.rule(x, rule), 0);
        return x.strength(0, 1);
    }

    private static void ruleRefusals() {
        String[] bad = {"x", "s+", "(s", "1000", "s<h<w", "(((((s", Sand.times(41, "-")};
        int[] at = {0, 2, 2, 3, 3, 4, 40};
        for (int i = 0; i < bad.length; i++) {
            Sand.refusedText("6: " + bad[i] + ", THE RULE stays", bad[i], x -> x.rule(), -1 - at[i]);
        }
        ByTheThumbs x = Sand.mixed();
        Sand.rule(x, "1");
        Sand.due("6: what can be undone stays", x.count(11), 6);
        Sand.due("6: what is kept stays", x.again(0), true);
        Sand.row("6: the ROW stays", x, 3, 4);
    }

    // ---- 44: law reads as rule does

    private static void lawSigns() {
        Reader reader = Sand::law;
        for (String prefix : new String[] {"", "s", "s+", "(s", "123", "((((", "s<h"}) {
            for (char c = 0; c < 256; c++) {
                int byRule = Sand.rule(new ByTheThumbs(), prefix + c);
                int want = byRule == 0 ? 0 : -10000 + byRule + 1;
                Sand.due("44: " + prefix + " and sign " + (int) c, reader.read(new ByTheThumbs(), prefix + c), want);
            }
        }
        lengths("44", reader, -10000);
        String[] bad = {"x", "s+", "(s", "1000", "s<h<w", "(((((s", Sand.times(41, "-")};
        int[] at = {0, 2, 2, 3, 3, 4, 40};
        for (int i = 0; i < bad.length; i++) {
            Sand.refusedText("44: " + bad[i], bad[i], x -> x.law(), -10000 - at[i]);
        }
    }

    // ---- 17: games

    private static void gameSigns() {
        Reader reader = Sand::games;
        standing("17: an ACT", reader, "", "fdsb");
        goingOn("17: an ACT", reader, "", "fdsb");
        standing("17: the first of f", reader, "f", DIGITS);
        goingOn("17: the first of f", reader, "f", DIGITS);
        standing("17: the second of f", reader, "f0", DIGITS);
        ending("17: the second of f; none can be without FIGHTERS", reader, "f0", DIGITS, 0);
        standing("17: d", reader, "d", NOT_ZERO);
        ending("17: d", reader, "d", NOT_ZERO, 1);
        standing("17: s", reader, "s", DIGITS);
        ending("17: s; none can be without FIGHTERS", reader, "s", DIGITS, 0);
        standing("17: b", reader, "b", DIGITS);
        ending("17: b; none can be without FIGHTERS", reader, "b", DIGITS, 0);
        for (String act : new String[] {"d1", "f01", "s0", "b0"}) {
            standing("17: the next ACT", reader, act, "fdsb");
            goingOn("17: the next ACT", reader, act, "fdsb");
        }
        for (int n = 1; n <= 9; n++) {
            ByTheThumbs x = new ByTheThumbs();
            Sand.games(x, "d" + n);
            Sand.due("17: d" + n, x.count(4), n);
        }
    }

    private static void gameLengths() {
        Reader reader = Sand::games;
        String days = Sand.times(40, "d1");
        Sand.due("17: 58 signs", reader.read(new ByTheThumbs(), days.substring(0, 58)), 29);
        Sand.due("17: 59 signs, an end too early", reader.read(new ByTheThumbs(), days.substring(0, 59)), -60);
        Sand.due("17: 60 signs", reader.read(new ByTheThumbs(), days.substring(0, 60)), 30);
        Sand.due("17: 61 signs", reader.read(new ByTheThumbs(), days.substring(0, 61)), -61);
        Sand.due("17: 61 signs, a bad one at 60", reader.read(new ByTheThumbs(), days.substring(0, 60) + "x"), -61);
        Sand.due("17: 61 signs, a bad one at 59", reader.read(new ByTheThumbs(), days.substring(0, 59) + "0d"), -60);
        Sand.due("17: 60 signs, an end too early at 60", reader.read(new ByTheThumbs(), days.substring(0, 58) + "f0"), -61);
        Sand.due("17: 61 signs, f goes over it", reader.read(new ByTheThumbs(), days.substring(0, 58) + "f01"), -61);
        Sand.due("17: 62 signs, f goes over it at 59", reader.read(new ByTheThumbs(), days.substring(0, 56) + "d1f01"), -61);
        Sand.due("17: 80 signs", reader.read(new ByTheThumbs(), days), -61);
        Sand.due("17: 80 signs, a bad one first", reader.read(new ByTheThumbs(), "x" + days.substring(0, 79)), -1);
        Sand.due("17: 60 signs of f", reader.read(Sand.world("n11000;n11000", ""), Sand.times(20, "f01")), 3);
        Sand.due("17: 63 signs of f", reader.read(Sand.world("n11000;n11000", ""), Sand.times(21, "f01")), -61);
    }

    private static void gameRefusals() {
        String[] bad = {"x", "f", "f0", "d", "d0", "s", "b", "d1x", "d1d", "f04d0", "s0s0s0sx", Sand.times(31, "d1")};
        int[] at = {0, 1, 2, 1, 1, 1, 1, 2, 3, 4, 7, 60};
        for (int i = 0; i < bad.length; i++) {
            Sand.refusedText("17: " + bad[i] + ", nothing is done", bad[i], x -> x.games(), -1 - at[i]);
        }
    }

    // ---- empty ones

    private static void emptyTexts() {
        Sand.refusedText("4: an empty one: nothing", "", x -> x.fighters(), 0);
        Sand.refusedText("5: an empty one: nothing", "", x -> x.seats(), 0);
        ByTheThumbs x = Sand.mixed();
        Sand.due("6: another RULE before", x.strength(0, 4), 93);
        Sand.due("6: an empty one: none", Sand.rule(x, ""), 0);
        Sand.due("6: the RULE that is at first", x.strength(0, 4), 96);
        Sand.due("6: of ARMS too", x.strength(3, 0), 13);
        ByTheThumbs y = Sand.mixed();
        Sand.due("17: an empty one: nothing", Sand.games(y, ""), 0);
        Sand.row("17: none could not be, none is DEAD", y, 0, 0);
        Sand.due("17: nothing to be undone", y.count(11), 6);
        Sand.question("17: an empty one changes nothing but the ROW", Sand::textless, z -> z.games());
        Sand.question("44: an empty one", Sand::textless, z -> z.law());
    }
}
