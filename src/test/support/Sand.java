import java.util.ArrayList;
import java.util.List;
import java.util.NoSuchElementException;

/** What the tests of edges share: texts, answers that are due, and twins by which "nothing changes" is looked at. */
final class Sand {
    /** Seen from outside: 0 and 4 can fight, 1 has HURT 9, 2 is DEAD, 3 is FREED; one OWNER; FAVOUR 20 is SPARED. */
    static final int MIXED_FIGHTERS = 5;
    static final String EIGHT = "n11000;s11000;p11000;l11000;n11000;s11000;p11000;l11000";
    private static final String KEPT_TEXT = "d1d2d3";
    private static int wrong = 0;
    private static int looked = 0;

    private Sand() {
    }

    interface Build {
        ByTheThumbs make();
    }

    interface Call {
        long on(ByTheThumbs x);
    }

    // ---- answers

    static void due(String what, long got, long want) {
        looked++;
        if (got != want) {
            wrong++;
            System.out.println(what + " answered " + got + ", due is " + want);
        }
    }

    static void due(String what, boolean got, boolean want) {
        due(what, got ? 1 : 0, want ? 1 : 0);
    }

    /** The ROW, whole. */
    static void row(String what, ByTheThumbs x, long... want) {
        due(what + ": numbers of the ROW", x.count(12), want.length);
        for (int i = 0; i < want.length && i < x.count(12); i++) {
            due(what + ": row(" + i + ")", x.row(i), want[i]);
        }
    }

    static boolean isThrown(Call call, ByTheThumbs x) {
        try {
            call.on(x);
        } catch (NoSuchElementException e) {
            return e.getClass() == NoSuchElementException.class;
        }
        return false;
    }

    static void finish() {
        System.out.println(looked + " answers looked at, " + wrong + " not as due");
        if (wrong != 0) {
            System.exit(1);
        }
    }

    // ---- texts

    static void put(ByTheThumbs x, String text) {
        x.end(0);
        for (int i = 0; i < text.length(); i += 4) {
            int v = 0;
            for (int j = 0; j < 4; j++) {
                v = v << 8 | (i + j < text.length() ? text.charAt(i + j) : 'x');
            }
            x.sign(v);
        }
        x.end(text.length());
    }

    static int fighters(ByTheThumbs x, String text) {
        put(x, text);
        return x.fighters();
    }

    static int seats(ByTheThumbs x, String text) {
        put(x, text);
        return x.seats();
    }

    static int rule(ByTheThumbs x, String text) {
        put(x, text);
        return x.rule();
    }

    static int games(ByTheThumbs x, String text) {
        put(x, text);
        return x.games();
    }

    static int law(ByTheThumbs x, String text) {
        put(x, text);
        return x.law();
    }

    static String times(int n, String part) {
        return part.repeat(n);
    }

    static ByTheThumbs world(String fighters, String seats) {
        ByTheThumbs x = new ByTheThumbs();
        fighters(x, fighters);
        seats(x, seats);
        return x;
    }

    /** One of each fate, scores, hearsay, a RULE, a ROW (3, 4), doings to be undone, both numbers kept, and a text. */
    static ByTheThumbs mixed() {
        ByTheThumbs x = world("n91030;s11030;p11000;l11030;n91030", "9,20,0;3,50,1");
        x.set(0, 9);
        rule(x, "s*10-h*5+w");
        x.fight(0, 1);
        x.fight(0, 1);
        x.keep(0);
        x.fight(0, 1);
        x.fight(4, 2);
        x.frees(3);
        x.keep(1);
        x.song(0, 7);
        x.score(0, 1);
        x.score(4, 2);
        x.heard(3, 5);
        x.odds(2, 1, 5);
        put(x, KEPT_TEXT);
        return x;
    }

    static ByTheThumbs textless() {
        ByTheThumbs x = mixed();
        x.end(0);
        return x;
    }

    // ---- nothing changes

    /** The call answers so, and all that can be seen then is as it is without the call, THE TEXT and the ROW too. */
    static void refused(String what, Build build, Call call, long want) {
        ByTheThumbs x = build.make();
        due(what, call.on(x), want);
        same(what, build.make(), x, true);
    }

    static void refused(String what, Call call, long want) {
        refused(what, Sand::mixed, call, want);
    }

    /** As refused(), but the call reads THE TEXT: it is empty then. */
    static void refusedText(String what, Build build, String text, Call call, long want) {
        ByTheThumbs x = build.make();
        put(x, text);
        due(what, call.on(x), want);
        due(what + ": THE TEXT is emptied", x.count(13), 0);
        ByTheThumbs twin = build.make();
        twin.end(0);
        same(what, twin, x, true);
    }

    static void refusedText(String what, String text, Call call, long want) {
        refusedText(what, Sand::mixed, text, call, want);
    }

    static void refusedByThrow(String what, Call call) {
        ByTheThumbs x = mixed();
        due(what + " throws", isThrown(call, x), true);
        same(what, mixed(), x, true);
    }

    /** A question: nothing changes but the ROW. */
    static void question(String what, Build build, Call call) {
        ByTheThumbs x = build.make();
        call.on(x);
        same(what, build.make(), x, false);
    }

    static void question(String what, Call call) {
        question(what, Sand::mixed, call);
    }

    private static void same(String what, ByTheThumbs twin, ByTheThumbs x, boolean withRow) {
        List<String> want = view(twin, withRow);
        List<String> got = view(x, withRow);
        due(what + ": as many things seen", got.size(), want.size());
        for (int i = 0; i < want.size() && i < got.size(); i++) {
            if (!want.get(i).equals(got.get(i))) {
                due(what + " changes " + want.get(i) + " to " + got.get(i), 1, 0);
                return;
            }
        }
    }

    /** All that can be seen; the object is used up by it, as what can be undone is undone, and what is kept comes back. */
    private static List<String> view(ByTheThumbs x, boolean withRow) {
        List<String> seen = new ArrayList<>();
        for (int what = 0; what <= 13; what++) {
            if (what != 12 || withRow) {
                seen.add("count(" + what + ") " + x.count(what));
            }
        }
        int numbers = withRow ? x.count(12) : 0;
        for (int i = 0; i < numbers; i++) {
            seen.add("row(" + i + ") " + x.row(i));
        }
        viewTold(x, seen);
        viewState(x, seen);
        seen.add("THE TEXT as games " + x.games() + " DAY " + x.count(4));
        for (int i = 0; i < 13 && x.undo() >= 0; i++) {
            viewState(x, seen);
        }
        for (int i = 0; i < 2; i++) {
            seen.add("again(" + i + ") " + x.again(i));
            viewState(x, seen);
        }
        return seen;
    }

    private static void viewTold(ByTheThumbs x, List<String> seen) {
        int fighters = x.count(0);
        for (int i = 0; i < fighters; i++) {
            for (int what = 0; what <= 3; what++) {
                seen.add("fighter(" + i + ", " + what + ") " + x.fighter(i, what));
            }
            seen.add("places(" + i + ") " + x.places(i));
        }
        for (int i = 0; i + 1 < fighters; i++) {
            seen.add("strength(" + i + ", " + (i + 1) + ") " + x.strength(i, i + 1));
        }
        int seats = x.count(1);
        for (int i = 0; i < seats; i++) {
            for (int what = 0; what <= 2; what++) {
                seen.add("seat(" + i + ", " + what + ") " + x.seat(i, what));
            }
        }
        seen.add("fits() " + x.fits());
    }

    private static void viewState(ByTheThumbs x, List<String> seen) {
        StringBuilder state = new StringBuilder("state");
        int fighters = x.count(0);
        for (int i = 0; i < fighters; i++) {
            for (int what = 4; what <= 8; what++) {
                state.append(' ').append(x.fighter(i, what));
            }
            state.append(';');
        }
        for (int owner = 0; owner < 4; owner++) {
            state.append(" purse ").append(x.purse(owner));
        }
        state.append(" MEANS ").append(x.count(3)).append(" DAY ").append(x.count(4)).append(" SEEN ").append(x.count(8));
        seen.add(state.toString());
    }
}
