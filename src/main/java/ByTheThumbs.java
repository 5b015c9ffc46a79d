import java.util.NoSuchElementException;

/**
 * Fighters in the sand, the crowd that spares them or not, and what can be asked of both.
 * What each call promises stands in the project's document; here stands only why it is done so.
 */
public final class ByTheThumbs {
    public static final int NONE = -1;

    private static final int MOST = 8;
    private static final int OWNERS = 4;
    private static final int NOT_HERE = -2;
    private static final int HINDERED = -3;
    private static final int NOTHING_FOUND = -2;
    private static final int LAW_REFUSED = -10000;
    private static final int SONG_IN_GAMES = 5;
    private static final int GAMES_SIGNS = 60;
    private static final int MINUTES = 10;

    private final Text text = new Text();
    private final Row told = new Row();
    private final Lines roster = new Lines(Lines.FIGHTER_FORM, 62);
    private final Crowd crowd = new Crowd();
    private final Arena arena = new Arena(roster, crowd);
    private final State now = new State();
    private final State before = new State();
    private final State trial = new State();
    private final Past past = new Past();
    private final Search search = new Search(arena);
    private final Wall wall = new Wall();
    private final Hearsay hearsay = new Hearsay();

    public ByTheThumbs() {
        now.cells[State.MEANS] = 1000;
        arena.rule.read(text);
        text.clear();
    }

    // ---- fighters, seats

    public int sign(int v) {
        return text.append(v) ? text.size : NONE;
    }

    public boolean end(int n) {
        return text.cut(n);
    }

    public int fighters() {
        if (text.isEmpty()) {
            return 0;
        }
        int wrong = roster.read(text);
        text.clear();
        if (wrong != NONE) {
            return -1 - wrong;
        }
        int known = roster.count;
        int lines = roster.enter();
        for (int i = known; i < roster.count; i++) {
            now.enter(i, roster.of(Lines.FAVOUR, i));
        }
        past.clear();
        return lines;
    }

    public int seats() {
        if (text.isEmpty()) {
            return 0;
        }
        int wrong = crowd.seats.read(text);
        text.clear();
        if (wrong != NONE) {
            return -1 - wrong;
        }
        past.clear();
        return crowd.enter();
    }

    public int rule() {
        int wrong = arena.spareRule.read(text);
        text.clear();
        if (wrong != NONE) {
            return -1 - wrong;
        }
        arena.swapRules();
        return 0;
    }

    public int fighter(int fighter, int what) throws NoSuchElementException {
        if (!roster.has(fighter) || what < 0 || what > 8) {
            throw new NoSuchElementException();
        }
        switch (what) {
            case 0: return roster.of(Lines.ARMS, fighter);
            case 1: return roster.of(Lines.SKILL, fighter);
            case 2: return roster.of(Lines.HIRE, fighter);
            case 3: return roster.of(Lines.OWNER, fighter);
            case 4: return now.favour(fighter);
            case 5: return now.hurt(fighter);
            case 6: return now.fought(fighter);
            case 7: return now.won(fighter);
            default: return now.fate(fighter);
        }
    }

    public int seat(int seat, int what) throws NoSuchElementException {
        if (!crowd.seats.has(seat) || what < 0 || what > 2) {
            throw new NoSuchElementException();
        }
        switch (what) {
            case 0: return crowd.seats.of(Lines.PEOPLE, seat);
            case 1: return crowd.seats.of(Lines.PICKY, seat);
            default: return crowd.seats.of(Lines.FOLLOWS, seat);
        }
    }

    public int purse(int owner) {
        return isOwner(owner) ? now.cells[State.PURSE + owner] : NONE;
    }

    public int strength(int one, int other) throws NoSuchElementException {
        if (!roster.has(one) || !roster.has(other) || one == other) {
            throw new NoSuchElementException();
        }
        return arena.rule.value(roster, now, one, other);
    }

    public int set(int what, int v) {
        if (what == 0 && v >= 1 && v <= 9) {
            int was = arena.sword;
            arena.sword = v;
            return was;
        }
        if (what == 1 && v >= 0 && v <= 9999) {
            int was = now.means();
            now.cells[State.MEANS] = v;
            return was;
        }
        return NONE;
    }

    public int sheet(int kind, int n, int f, int step) {
        if (kind < 0 || kind > 3 || n > MOST) {
            return NONE;
        }
        boolean missing = kind == 3;
        if (!missing && n < 0) {
            return -2;
        }
        int sum = 0;
        for (int i = 0; i < roster.count; i++) {
            int favour = missing || i >= n ? 0 : sheetEntry(kind, f + i * step);
            now.cells[State.FAVOUR + i] = favour;
            sum += favour;
        }
        return missing ? -3 : sum;
    }

    private static int sheetEntry(int kind, int entry) {
        int read = kind == 0 ? (byte) entry : kind == 1 ? (short) entry : entry;
        return Math.max(0, Math.min(99, read));
    }

    private static boolean isOwner(int owner) {
        return owner >= 0 && owner < OWNERS;
    }

    // ---- games

    public int fight(int one, int other) {
        before.take(now);
        int winner = arena.meet(now, one, other);
        if (winner < 0) {
            return winner;
        }
        past.push(before);
        told.clear();
        told.add(now.isDead(one + other - winner) ? 1 : 0);
        told.add(now.favour(one));
        told.add(now.favour(other));
        told.add(now.means());
        return winner;
    }

    public int days(int n) {
        before.take(now);
        return remembered(arena.pass(now, n));
    }

    public int song(int fighter, int n) {
        before.take(now);
        return remembered(arena.sing(now, fighter, n));
    }

    public int frees(int fighter) {
        before.take(now);
        return remembered(arena.buyFree(now, fighter));
    }

    public int games() {
        text.start(GAMES_SIGNS);
        int wrong = wrongAct();
        if (wrong != NONE) {
            text.clear();
            return -1 - wrong;
        }
        before.take(now);
        int done = playActs();
        boolean all = text.ended();
        text.clear();
        if (done > 0) {
            past.push(before);
        }
        told.clear();
        told.add(all ? 0 : 1);
        told.add(moreSince(before, now, State.DEAD));
        return done;
    }

    public int undo() {
        if (past.size == 0) {
            return NONE;
        }
        past.pop(now);
        return past.size;
    }

    private int remembered(int answer) {
        if (answer >= 0) {
            past.push(before);
        }
        return answer;
    }

    /** All ACTS are looked at before the first is done, as a bad sign must leave all undone. */
    private int wrongAct() {
        for (int act = 0; act < GAMES_SIGNS && !text.ended(); act++) {
            int kind = text.peek();
            if (kind != 'f' && kind != 'd' && kind != 's' && kind != 'b') {
                return text.at;
            }
            text.at++;
            if (text.takeDigit(kind == 'd' ? 1 : 0, 9) == NONE) {
                return text.at;
            }
            if (kind == 'f' && text.takeDigit(0, 9) == NONE) {
                return text.at;
            }
        }
        return text.ended() ? NONE : text.at;
    }

    /** Leaves the reading place at the end of THE TEXT only if every ACT could be done. */
    private int playActs() {
        text.start(GAMES_SIGNS);
        for (int done = 0; done < GAMES_SIGNS; done++) {
            if (text.ended()) {
                return done;
            }
            int start = text.at;
            if (playAct() < 0) {
                text.at = start;
                return done;
            }
        }
        return GAMES_SIGNS;
    }

    private int playAct() {
        int kind = text.next();
        int first = text.next() - '0';
        switch (kind) {
            case 'f': return arena.meet(now, first, text.next() - '0');
            case 'd': return arena.pass(now, first);
            case 's': return arena.sing(now, first, SONG_IN_GAMES);
            default: return arena.buyFree(now, first);
        }
    }

    private int moreSince(State earlier, State later, int fate) {
        return Integer.bitCount(later.bits(fate, roster.count)) - Integer.bitCount(earlier.bits(fate, roster.count));
    }

    // ---- the crowd

    public int thumbs(int fighter) {
        if (!roster.has(fighter)) {
            return NONE;
        }
        int favour = now.favour(fighter);
        int up = crowd.up(favour, 0, 0);
        told.clear();
        told.add(crowd.seats.sum(Lines.PEOPLE, up));
        told.add(crowd.spares(favour) ? 1 : 0);
        return up;
    }

    public int mercy() {
        return crowd.spares(99) ? crowd.leastSpared : NOTHING_FOUND;
    }

    public int claque(int fighter) {
        if (!roster.has(fighter)) {
            return NONE;
        }
        int won = crowd.fewestToWin(now.favour(fighter));
        told.clear();
        told.add(won);
        return Integer.bitCount(won);
    }

    public int tips(int fighter) {
        if (!roster.has(fighter)) {
            return NONE;
        }
        int tipping = crowd.tipping(now.favour(fighter));
        told.clear();
        told.add(Integer.bitCount(tipping));
        return tipping;
    }

    // ---- pairs

    public int would(int one, int other) {
        int winner = foresee(one, other);
        if (winner < 0) {
            return winner;
        }
        told.clear();
        told.add(foreseenGain(one, other));
        told.add(now.means() - trial.means());
        return 2 * winner + (trial.isDead(one + other - winner) ? 1 : 0);
    }

    public int beats(int one) {
        if (!roster.has(one)) {
            return NONE;
        }
        if (!now.canFight(one)) {
            return NOT_HERE;
        }
        int beaten = 0;
        int dead = 0;
        for (int other = 0; other < roster.count; other++) {
            if (foresee(one, other) == one) {
                beaten |= 1 << other;
                dead += trial.isDead(other) ? 1 : 0;
            }
        }
        told.clear();
        told.add(dead);
        return beaten;
    }

    public int card(int n) {
        if (n < 1 || n > 4) {
            return NONE;
        }
        int able = arena.ableBits(now);
        if (Integer.bitCount(able) < 2 * n) {
            return NOTHING_FOUND;
        }
        for (int one = 0; one < roster.count; one++) {
            for (int other = one + 1; other < roster.count; other++) {
                int winner = foresee(one, other);
                if (winner >= 0) {
                    search.enter(one, other, trial.isDead(one + other - winner), foreseenGain(one, other));
                }
            }
        }
        int dead = search.leastDead(n, able);
        told.clear();
        for (int i = 0; i < n; i++) {
            told.add(search.bestTurns[i] / MOST);
            told.add(search.bestTurns[i] % MOST);
        }
        return dead;
    }

    public int even() {
        int able = arena.ableBits(now);
        int pair = NONE;
        long least = 0;
        for (int one = 0; one < roster.count; one++) {
            for (int other = one + 1; other < roster.count; other++) {
                if ((able >> one & able >> other & 1) == 0) {
                    continue;
                }
                // As longs: the difference of two ints may be no int.
                long strength = arena.rule.value(roster, now, one, other);
                long gap = Math.abs(strength - arena.rule.value(roster, now, other, one));
                if (pair == NONE || gap < least) {
                    pair = one * MOST + other;
                    least = gap;
                }
            }
        }
        if (pair == NONE) {
            return NOTHING_FOUND;
        }
        told.clear();
        told.add(pair / MOST);
        told.add(pair % MOST);
        return (int) Math.min(9999, least);
    }

    public int career(int fighter, int n) {
        if (!roster.has(fighter) || n < 1 || n > 4) {
            return NONE;
        }
        int favour = search.mostFavour(now, fighter, n);
        if (favour == NONE) {
            return NOTHING_FOUND;
        }
        told.clear();
        for (int i = 0; i < n; i++) {
            told.add(search.bestTurns[i]);
        }
        return favour;
    }

    public int sword(int fighter, int other) {
        if (!roster.has(fighter) || !roster.has(other) || fighter == other) {
            return NONE;
        }
        trial.take(now);
        if (arena.hindrance(trial, fighter, other) != 0) {
            return HINDERED;
        }
        // SWORD is 9 at most, so that nobody fights more than nine times.
        for (int fights = 1; fights <= 9; fights++) {
            if (arena.meet(trial, fighter, other) < 0) {
                return NOTHING_FOUND;
            }
            if (trial.fate(fighter) == State.FREED) {
                return fights;
            }
            arena.pass(trial, 1);
        }
        return NOTHING_FOUND;
    }

    public int worth(int owner) {
        if (!isOwner(owner)) {
            return NONE;
        }
        int sum = 0;
        int many = 0;
        int dearest = NONE;
        int most = 0;
        for (int i = 0; i < roster.count; i++) {
            if (roster.of(Lines.OWNER, i) != owner || !now.isHere(i)) {
                continue;
            }
            int price = roster.of(Lines.HIRE, i) * (crowd.spares(now.favour(i)) ? 20 : 50);
            sum += price;
            many++;
            if (price > most) {
                most = price;
                dearest = i;
            }
        }
        told.clear();
        told.add(many);
        told.add(dearest);
        return sum;
    }

    public int hires(int n) {
        if (n < 0 || n > 99) {
            return NONE;
        }
        int able = arena.ableBits(now);
        int best = 0;
        for (int set = 1; set <= able; set++) {
            if ((set & ~able) == 0 && roster.sum(Lines.HIRE, set) <= n && isBetterHire(set, best)) {
                best = set;
            }
        }
        told.clear();
        told.add(best);
        told.add(roster.sum(Lines.HIRE, best));
        return Integer.bitCount(best);
    }

    /** The sets come with their bits growing, so that of equal ones the first stays. */
    private boolean isBetterHire(int set, int best) {
        int more = Integer.bitCount(set) - Integer.bitCount(best);
        return more > 0 || more == 0 && now.favourOf(set) > now.favourOf(best);
    }

    /** What a FIGHT would do stands in the trial state then, if it is not refused. */
    private int foresee(int one, int other) {
        trial.take(now);
        return arena.meet(trial, one, other);
    }

    private int foreseenGain(int one, int other) {
        int both = 1 << one | 1 << other;
        return trial.favourOf(both) - now.favourOf(both);
    }

    // ---- ranks by scores on walls

    public int score(int one, int other) {
        if (!roster.has(one) || !roster.has(other) || one == other || wall.scores == Wall.MOST_SCORES) {
            return NONE;
        }
        if (wall.isAbove(other, one)) {
            return -2;
        }
        wall.scratch(one, other);
        return wall.scores;
    }

    public int wash() {
        int were = wall.scores;
        wall.clear();
        return were;
    }

    public int ranks() {
        int orders = wall.tally(roster.count);
        told.clear();
        int placed = 0;
        for (int place = 0; place < roster.count; place++) {
            int next = wall.leastNext(placed);
            told.add(next);
            placed |= 1 << next;
        }
        return orders;
    }

    public int stands(int fighter, int place) {
        if (!roster.has(fighter) || place < 0 || place >= roster.count) {
            return NONE;
        }
        int orders = wall.tally(roster.count);
        int such = wall.ordersAt(fighter, place);
        told.clear();
        told.addFraction(such, orders);
        return such;
    }

    public int places(int fighter) {
        if (!roster.has(fighter)) {
            return NONE;
        }
        int highest = Integer.bitCount(wall.above[fighter]);
        int lowest = roster.count - 1 - wall.countBelow(fighter);
        return 10 * highest + lowest;
    }

    public int watch() {
        int orders = wall.tally(roster.count);
        if (orders == 1) {
            return NOTHING_FOUND;
        }
        int pair = 0;
        int fewest = orders + 1;
        for (int one = 0; one < roster.count; one++) {
            for (int other = one + 1; other < roster.count; other++) {
                int first = wall.ordersWithAbove(one, other);
                int left = Math.max(first, orders - first);
                if (left < fewest) {
                    fewest = left;
                    pair = one * MOST + other;
                }
            }
        }
        told.clear();
        told.add(pair / MOST);
        told.add(pair % MOST);
        return fewest;
    }

    // ---- chance, who it was

    public int odds(int n, int k, int p) {
        if (n < 1 || n > 10 || k < 0 || k > 10 || p < 0 || p > 10) {
            return NONE;
        }
        long likely = 0;
        for (int won = k; won <= n; won++) {
            likely += ways(n, won) * power(p, won) * power(10 - p, n - won);
        }
        told.clear();
        told.addFraction(likely, power(10, n));
        return 0;
    }

    public int till(int a, int b, int p) {
        if (a < 1 || a > 6 || b < 1 || b > 6 || p < 0 || p > 10) {
            return NONE;
        }
        long likely = 0;
        for (int lost = 0; lost < b; lost++) {
            // The last fight is won; the lost ones lie anywhere ahead of it.
            long orders = ways(a - 1 + lost, lost);
            likely += orders * power(p, a) * power(10 - p, lost) * power(10, b - 1 - lost);
        }
        told.clear();
        told.addFraction(likely, power(10, a + b - 1));
        return 0;
    }

    public int heard(int what, int v) {
        return hearsay.add(what, v) ? hearsay.size : NONE;
    }

    public int forget() {
        int were = hearsay.size;
        hearsay.size = 0;
        return were;
    }

    public int fits() {
        int fitting = hearsay.fitting(roster, now);
        told.clear();
        told.add(Integer.bitCount(fitting));
        return fitting;
    }

    public int ask() {
        int fitting = hearsay.fitting(roster, now);
        if (fitting == 0) {
            return NOTHING_FOUND;
        }
        int all = Integer.bitCount(fitting);
        int best = 0;
        int fewest = all + 1;
        for (int v = 1; v <= 9; v++) {
            int cheap = hearsay.countHiredFor(v, roster, fitting);
            int left = Math.max(cheap, all - cheap);
            if (left < fewest) {
                fewest = left;
                best = v;
            }
        }
        told.clear();
        told.add(fewest);
        return best;
    }

    private static long power(long base, int times) {
        long product = 1;
        for (int i = 0; i < times; i++) {
            product *= base;
        }
        return product;
    }

    /** In how many ways some of all can be taken. */
    private static long ways(int all, int some) {
        long ways = 1;
        for (int i = 0; i < some; i++) {
            ways = ways * (all - i) / (i + 1);
        }
        return ways;
    }

    // ---- breaks at rest, rules, games

    public int rests(int v) {
        if (v < 0 || v > 99) {
            return NONE;
        }
        int pairs = 0;
        told.clear();
        for (int x = 0; x < MINUTES; x++) {
            for (int y = 0; y < MINUTES; y++) {
                if (!isBestBreak(x, y, v) || !isBestBreak(y, x, v)) {
                    continue;
                }
                if (pairs == 0) {
                    told.add(x);
                    told.add(y);
                }
                pairs++;
            }
        }
        return pairs;
    }

    public int law() {
        int wrong = arena.spareRule.read(text);
        text.clear();
        if (wrong != NONE) {
            return LAW_REFUSED - wrong;
        }
        int others = 0;
        told.clear();
        for (int one = 0; one < roster.count; one++) {
            for (int other = one + 1; other < roster.count; other++) {
                if (!now.isHere(one) || !now.isHere(other) || !arena.rulesDiffer(now, one, other)) {
                    continue;
                }
                if (others == 0) {
                    told.add(one);
                    told.add(other);
                }
                others++;
            }
        }
        return others;
    }

    public int years(int seed, int n) {
        if (roster.count == 0) {
            return NOTHING_FOUND;
        }
        if (n < 1 || n > 60) {
            return NONE;
        }
        trial.take(now);
        int random = seed;
        int fought = 0;
        for (int time = 1; time <= n; time++) {
            random = nextDraw(random);
            int one = (random >>> 16) % roster.count;
            random = nextDraw(random);
            int other = (random >>> 16) % roster.count;
            fought += arena.meet(trial, one, other) >= 0 ? 1 : 0;
            if (time % 3 == 0) {
                arena.pass(trial, 1);
            }
        }
        told.clear();
        told.add(moreSince(now, trial, State.DEAD));
        told.add(moreSince(now, trial, State.FREED));
        told.add(trial.means());
        return fought;
    }

    private static int nextDraw(int random) {
        return random * 1103515245 + 12345;
    }

    private static int share(int mine, int his, int v) {
        if (mine == his) {
            return v / 2 + mine;
        }
        return mine < his ? v + mine : his;
    }

    private static boolean isBestBreak(int mine, int his, int v) {
        for (int minute = 0; minute < MINUTES; minute++) {
            if (share(minute, his, v) > share(mine, his, v)) {
                return false;
            }
        }
        return true;
    }

    // ---- kept

    public boolean keep(int i) {
        return past.shelve(i, now);
    }

    public boolean again(int i) {
        return past.fetch(i, now);
    }

    public int count(int what) {
        switch (what) {
            case 0: return roster.count;
            case 1: return crowd.seats.count;
            case 2: return arena.sword;
            case 3: return now.means();
            case 4: return now.cells[State.DAY];
            case 5: return now.bits(State.HERE, roster.count);
            case 6: return now.bits(State.DEAD, roster.count);
            case 7: return now.bits(State.FREED, roster.count);
            case 8: return Integer.bitCount(now.cells[State.SEEN]);
            case 9: return wall.scores;
            case 10: return hearsay.size;
            case 11: return past.size;
            case 12: return told.size;
            case 13: return text.size;
            default: return NONE;
        }
    }

    public long row(int i) throws NoSuchElementException {
        if (i < 0 || i >= told.size) {
            throw new NoSuchElementException();
        }
        return told.numbers[i];
    }

    /** THE TEXT, and the place up to which it is read. */
    private static final class Text {
        static final int MOST_SIGNS = 80;
        final int[] signs = new int[MOST_SIGNS];
        int size;
        int at;
        private int limit;

        boolean append(int v) {
            if (size + 4 > MOST_SIGNS) {
                return false;
            }
            for (int shift = 24; shift >= 0; shift -= 8) {
                signs[size] = v >>> shift & 255;
                size++;
            }
            return true;
        }

        boolean cut(int n) {
            if (n < 0 || n > size) {
                return false;
            }
            size = n;
            return true;
        }

        void clear() {
            size = 0;
        }

        boolean isEmpty() {
            return size == 0;
        }

        void put(String written) {
            size = 0;
            for (int i = 0; i < written.length() && i < MOST_SIGNS; i++) {
                signs[i] = written.charAt(i);
                size++;
            }
        }

        /** Signs behind the limit are none that can stand: the reading sticks there. */
        void start(int mostSigns) {
            at = 0;
            limit = mostSigns;
        }

        boolean ended() {
            return at >= size;
        }

        int peek() {
            return at < size && at < limit ? signs[at] : NONE;
        }

        int next() {
            int sign = peek();
            at++;
            return sign;
        }

        boolean take(int sign) {
            if (peek() != sign) {
                return false;
            }
            at++;
            return true;
        }

        /** A digit from the least to the most; NONE if there is none. */
        int takeDigit(int least, int most) {
            int digit = peek() - '0';
            if (digit < least || digit > most) {
                return NONE;
            }
            at++;
            return digit;
        }

        /** A number of 1 to so many digits; NONE if there is no digit. */
        int takeNumber(int mostDigits) {
            int number = NONE;
            for (int i = 0; i < mostDigits; i++) {
                int digit = takeDigit(0, 9);
                if (digit == NONE) {
                    break;
                }
                number = i == 0 ? digit : number * 10 + digit;
            }
            return number;
        }
    }

    /** The ROW: the longest ones name each of the most FIGHTERS once. */
    private static final class Row {
        final long[] numbers = new long[MOST];
        int size;

        void clear() {
            size = 0;
        }

        void add(long number) {
            if (size < numbers.length) {
                numbers[size] = number;
                size++;
            }
        }

        void addFraction(long upper, long lower) {
            long divisor = commonDivisor(upper, lower);
            add(upper / divisor);
            add(lower / divisor);
        }

        /** 1 at least, so that it divides; a hundred rounds are more than longs can need. */
        private static long commonDivisor(long one, long other) {
            long larger = one;
            long lesser = other;
            for (int i = 0; i < 100 && lesser != 0; i++) {
                long rest = larger % lesser;
                larger = lesser;
                lesser = rest;
            }
            return Math.max(1, larger);
        }
    }

    /** All that undo() brings back, in one row of cells, so that it is copied at a stroke. */
    private static final class State {
        static final int HERE = 0;
        static final int DEAD = 1;
        static final int FREED = 2;
        static final int FAVOUR = 0;
        static final int HURT = 8;
        static final int FOUGHT = 16;
        static final int WON = 24;
        static final int FATE = 32;
        static final int PURSE = 40;
        static final int SEEN = 44;
        static final int MEANS = 45;
        static final int DAY = 46;
        static final int CELLS = 47;
        final int[] cells = new int[CELLS];

        void take(State other) {
            System.arraycopy(other.cells, 0, cells, 0, CELLS);
        }

        int favour(int fighter) {
            return cells[FAVOUR + fighter];
        }

        int hurt(int fighter) {
            return cells[HURT + fighter];
        }

        int fought(int fighter) {
            return cells[FOUGHT + fighter];
        }

        int won(int fighter) {
            return cells[WON + fighter];
        }

        int fate(int fighter) {
            return cells[FATE + fighter];
        }

        int means() {
            return cells[MEANS];
        }

        boolean isHere(int fighter) {
            return fate(fighter) == HERE;
        }

        boolean isDead(int fighter) {
            return fate(fighter) == DEAD;
        }

        boolean canFight(int fighter) {
            return isHere(fighter) && hurt(fighter) < 9;
        }

        void enter(int fighter, int favour) {
            cells[FAVOUR + fighter] = favour;
            cells[HURT + fighter] = 0;
            cells[FOUGHT + fighter] = 0;
            cells[WON + fighter] = 0;
            cells[FATE + fighter] = HERE;
        }

        void like(int fighter, int more) {
            cells[FAVOUR + fighter] = Math.max(0, Math.min(99, favour(fighter) + more));
        }

        void pay(int owner, int sum) {
            cells[MEANS] -= sum;
            cells[PURSE + owner] += sum;
        }

        int bits(int fate, int fighters) {
            int bits = 0;
            for (int i = 0; i < fighters; i++) {
                bits |= fate(i) == fate ? 1 << i : 0;
            }
            return bits;
        }

        int favourOf(int fighters) {
            int sum = 0;
            for (int i = 0; i < MOST; i++) {
                sum += (fighters >> i & 1) * favour(i);
            }
            return sum;
        }
    }

    /**
     * FIGHTERS or SEATS as LINES told them; each part of a LINE has a column, a comma too.
     * Those that are being read stand behind the others till they enter.
     */
    private static final class Lines {
        /** Of a form: a is ARMS, + a digit above 0, o an OWNER, n a number, p one above 0, d a digit. */
        static final String FIGHTER_FORM = "a++on";
        static final int ARMS = 0;
        static final int SKILL = 1;
        static final int HIRE = 2;
        static final int OWNER = 3;
        static final int FAVOUR = 4;
        static final String SEAT_FORM = "p,n,d";
        static final int PEOPLE = 0;
        static final int PICKY = 2;
        static final int FOLLOWS = 4;
        private static final int PARTS = 5;
        private final String form;
        private final int mostSigns;
        private final int[][] columns = new int[PARTS][MOST];
        int count;
        private int fresh;

        Lines(String form, int mostSigns) {
            this.form = form;
            this.mostSigns = mostSigns;
        }

        boolean has(int line) {
            return line >= 0 && line < count;
        }

        int of(int part, int line) {
            return columns[part][line];
        }

        /** Of the lines in a set (bits). */
        int sum(int part, int lines) {
            int sum = 0;
            for (int i = 0; i < count; i++) {
                sum += (lines >> i & 1) * columns[part][i];
            }
            return sum;
        }

        /** NONE if all LINES can come, else the place of the first sign that can't stand there. */
        int read(Text text) {
            text.start(mostSigns);
            for (fresh = 0; count + fresh < MOST; fresh++) {
                if (!readLine(text, count + fresh)) {
                    return text.at;
                }
                if (text.ended()) {
                    fresh++;
                    return NONE;
                }
                if (!text.take(';')) {
                    return text.at;
                }
            }
            return text.at;
        }

        /** Those that were read last come to the others: how many they are. */
        int enter() {
            count += fresh;
            return fresh;
        }

        private boolean readLine(Text text, int line) {
            for (int part = 0; part < PARTS && part < form.length(); part++) {
                int value = readPart(text, form.charAt(part));
                if (value == NONE) {
                    return false;
                }
                columns[part][line] = value;
            }
            return true;
        }

        private static int readPart(Text text, char kind) {
            switch (kind) {
                case 'a': return readArms(text);
                case '+': return text.takeDigit(1, 9);
                case 'o': return text.takeDigit(0, OWNERS - 1);
                case 'd': return text.takeDigit(0, 9);
                case 'n': return text.takeNumber(2);
                case 'p': return readAboveNothing(text);
                default: return text.take(kind) ? 0 : NONE;
            }
        }

        private static int readArms(Text text) {
            int arms = armsOf(text.peek());
            if (arms != NONE) {
                text.at++;
            }
            return arms;
        }

        private static int armsOf(int letter) {
            switch (letter) {
                case 'n': return 0;
                case 's': return 1;
                case 'p': return 2;
                case 'l': return 3;
                default: return NONE;
            }
        }

        private static int readAboveNothing(Text text) {
            int number = text.takeNumber(2);
            if (number != 0) {
                return number;
            }
            // The document wants the place of its last digit, which is read already.
            text.at--;
            return NONE;
        }
    }

    /** SEATS, and whom they spare. */
    private static final class Crowd {
        final Lines seats = new Lines(Lines.SEAT_FORM, 76);
        /** With more FAVOUR no SEAT goes down: so this tells of all, and SEATS are asked once. */
        int leastSpared;

        /** Those that were read last come to the others: how many they are. */
        int enter() {
            int lines = seats.enter();
            leastSpared = 0;
            for (int favour = 0; favour <= 99 && !sparesIf(favour, 0, 0); favour++) {
                leastSpared = favour + 1;
            }
            return lines;
        }

        boolean spares(int favour) {
            return favour >= leastSpared;
        }

        /** SEATS that are up, if some are won over and some went home. */
        int up(int favour, int wonOver, int home) {
            int up = wonOver & ~home;
            for (int i = 0; i < seats.count; i++) {
                up |= favour >= seats.of(Lines.PICKY, i) ? 1 << i & ~home : 0;
            }
            // Each round but the last lifts one more at least.
            for (int round = 0; round < MOST; round++) {
                int ups = Integer.bitCount(up);
                int more = up;
                for (int i = 0; i < seats.count; i++) {
                    int wants = seats.of(Lines.FOLLOWS, i);
                    more |= wants != 0 && wants <= ups ? 1 << i & ~home : 0;
                }
                if (more == up) {
                    break;
                }
                up = more;
            }
            return up;
        }

        private boolean sparesIf(int favour, int wonOver, int home) {
            int up = up(favour, wonOver, home);
            return 2 * seats.sum(Lines.PEOPLE, up) >= seats.sum(Lines.PEOPLE, ~home);
        }

        /** All together always spare, so that there is one; the sets come with their bits growing. */
        int fewestToWin(int favour) {
            int all = (1 << seats.count) - 1;
            int best = all;
            for (int set = 0; set < all; set++) {
                if (Integer.bitCount(set) < Integer.bitCount(best) && sparesIf(favour, set, 0)) {
                    best = set;
                }
            }
            return best;
        }

        int tipping(int favour) {
            boolean spared = spares(favour);
            int tipping = 0;
            for (int i = 0; i < seats.count; i++) {
                tipping |= sparesIf(favour, 0, 1 << i) != spared ? 1 << i : 0;
            }
            return tipping;
        }
    }

    /** A RULE, read once into a row of steps on a stack, as it is asked for often. */
    private static final class Rule {
        private static final String STANDARD = "s*10-h*6+w*2+(a>e)*3";
        private static final int MOST_SIGNS = 40;
        private static final int MOST_DEEP = 4;
        private static final int NEGATE = '~';
        /** A NUMBER stands for itself, a letter or an operator as its sign below 0. */
        private final int[] steps = new int[MOST_SIGNS];
        private final int[] stack = new int[MOST_SIGNS];
        private int size;

        /** NONE if THE TEXT is a RULE, else the place of the first sign that can't stand there. */
        int read(Text text) {
            if (text.isEmpty()) {
                text.put(STANDARD);
            }
            text.start(MOST_SIGNS);
            size = 0;
            return readLevel(text, 0, 0) && text.ended() ? NONE : text.at;
        }

        private void step(int step) {
            if (size < MOST_SIGNS) {
                steps[size] = step;
                size++;
            }
        }

        /** Operators of level 0 bind least; level 3 has none, but things with - ahead. */
        private boolean readLevel(Text text, int depth, int level) {
            if (level > 2) {
                return readSigned(text, depth);
            }
            if (!readLevel(text, depth, level + 1)) {
                return false;
            }
            int mostOperators = level == 0 ? 1 : MOST_SIGNS;
            for (int i = 0; i < mostOperators; i++) {
                int sign = text.peek();
                if (levelOf(sign) != level) {
                    break;
                }
                text.at++;
                if (!readLevel(text, depth, level + 1)) {
                    return false;
                }
                step(-sign);
            }
            return true;
        }

        private static int levelOf(int sign) {
            switch (sign) {
                case '<': case '>': case '=': return 0;
                case '+': case '-': return 1;
                case '*': case '/': return 2;
                default: return NONE;
            }
        }

        private boolean readSigned(Text text, int depth) {
            boolean negative = false;
            for (int i = 0; i < MOST_SIGNS && text.take('-'); i++) {
                negative = !negative;
            }
            if (!readThing(text, depth)) {
                return false;
            }
            if (negative) {
                step(-NEGATE);
            }
            return true;
        }

        private boolean readThing(Text text, int depth) {
            if (text.peek() == '(') {
                if (depth >= MOST_DEEP) {
                    return false;
                }
                text.at++;
                return readLevel(text, depth + 1, 0) && text.take(')');
            }
            int number = text.takeNumber(3);
            if (number != NONE) {
                step(number);
                return true;
            }
            if (!isLetter(text.peek())) {
                return false;
            }
            step(-text.next());
            return true;
        }

        private static boolean isLetter(int sign) {
            switch (sign) {
                case 's': case 'h': case 'w': case 'f': case 'l': case 'a': case 'e': case 'd': return true;
                default: return false;
            }
        }

        /** STRENGTH of one against the other. */
        int value(Lines roster, State state, int one, int other) {
            int high = 0;
            // A RULE that was read never asks for more or less than the stack has; the tests keep each index
            // safe by itself.
            for (int i = 0; i < size && high < MOST_SIGNS; i++) {
                int step = steps[i];
                if (step >= 0) {
                    stack[high] = step;
                    high++;
                } else if (isLetter(-step)) {
                    stack[high] = letter(-step, roster, state, one, other);
                    high++;
                } else if (step == -NEGATE && high > 0) {
                    stack[high - 1] = -stack[high - 1];
                } else if (high > 1) {
                    high--;
                    stack[high - 1] = joined(-step, stack[high - 1], stack[high]);
                }
            }
            return stack[0];
        }

        private static int letter(int letter, Lines roster, State state, int one, int other) {
            switch (letter) {
                case 's': return roster.of(Lines.SKILL, one);
                case 'h': return state.hurt(one);
                case 'w': return state.won(one);
                case 'f': return state.fought(one);
                case 'l': return state.favour(one) / 10;
                case 'a': return roster.of(Lines.ARMS, one);
                case 'e': return roster.of(Lines.ARMS, other);
                default: return state.cells[State.DAY] % 8;
            }
        }

        private static int joined(int operator, int left, int right) {
            switch (operator) {
                case '<': return left < right ? 1 : 0;
                case '>': return left > right ? 1 : 0;
                case '=': return left == right ? 1 : 0;
                case '+': return left + right;
                case '-': return left - right;
                case '*': return left * right;
                default: return right == 0 ? 0 : left / right;
            }
        }
    }

    /** What can be done in the sand, to whichever state: the true one, or one on trial. */
    private static final class Arena {
        private final Lines roster;
        private final Crowd crowd;
        Rule rule = new Rule();
        Rule spareRule = new Rule();
        int sword = 5;

        Arena(Lines roster, Crowd crowd) {
            this.roster = roster;
            this.crowd = crowd;
        }

        void swapRules() {
            Rule was = rule;
            rule = spareRule;
            spareRule = was;
        }

        int ableBits(State state) {
            int bits = 0;
            for (int i = 0; i < roster.count; i++) {
                bits |= state.canFight(i) ? 1 << i : 0;
            }
            return bits;
        }

        boolean firstWins(Rule by, State state, int one, int other) {
            return by.value(roster, state, one, other) >= by.value(roster, state, other, one);
        }

        boolean rulesDiffer(State state, int one, int other) {
            return firstWins(rule, state, one, other) != firstWins(spareRule, state, one, other);
        }

        /** Why two can't fight, or 0. */
        int hindrance(State state, int one, int other) {
            if (!roster.has(one) || !roster.has(other) || one == other) {
                return NONE;
            }
            if (!state.isHere(one) || !state.isHere(other)) {
                return NOT_HERE;
            }
            return state.canFight(one) && state.canFight(other) ? 0 : HINDERED;
        }

        /** A FIGHT: who wins, or why they can't. */
        int meet(State state, int one, int other) {
            int why = hindrance(state, one, other);
            if (why != 0) {
                return why;
            }
            payHire(state, one);
            payHire(state, other);
            int winner = firstWins(rule, state, one, other) ? one : other;
            int loser = one + other - winner;
            excite(state, winner, loser);
            state.cells[State.HURT + loser] = Math.min(9, state.hurt(loser) + 3);
            state.cells[State.FOUGHT + one]++;
            state.cells[State.FOUGHT + other]++;
            state.cells[State.WON + winner]++;
            judge(state, loser);
            handSword(state, one);
            handSword(state, other);
            return winner;
        }

        private void payHire(State state, int fighter) {
            state.pay(roster.of(Lines.OWNER, fighter), Math.min(state.means(), roster.of(Lines.HIRE, fighter)));
        }

        private void excite(State state, int winner, int loser) {
            int arms = roster.of(Lines.ARMS, winner);
            int otherArms = roster.of(Lines.ARMS, loser);
            int pair = 1 << Math.min(arms, otherArms) * 4 + Math.max(arms, otherArms);
            int more = (state.cells[State.SEEN] & pair) == 0 ? 6 : -2;
            state.cells[State.SEEN] |= pair;
            state.like(winner, more);
            state.like(loser, more);
            state.like(winner, 4);
        }

        private void judge(State state, int loser) {
            int price = 50 * roster.of(Lines.HIRE, loser);
            if (!crowd.spares(state.favour(loser)) && state.means() >= price) {
                state.cells[State.FATE + loser] = State.DEAD;
                state.pay(roster.of(Lines.OWNER, loser), price);
            }
        }

        private void handSword(State state, int fighter) {
            if (!state.isDead(fighter) && state.fought(fighter) >= sword) {
                state.cells[State.FATE + fighter] = State.FREED;
            }
        }

        int pass(State state, int days) {
            if (days < 1 || days > 30) {
                return NONE;
            }
            for (int i = 0; i < roster.count; i++) {
                if (state.isHere(i)) {
                    state.cells[State.HURT + i] = Math.max(0, state.hurt(i) - days);
                }
            }
            state.cells[State.DAY] += days;
            return state.cells[State.DAY];
        }

        int sing(State state, int fighter, int price) {
            if (!roster.has(fighter) || price < 1 || price > 99) {
                return NONE;
            }
            if (!state.isHere(fighter)) {
                return NOT_HERE;
            }
            if (state.means() < price) {
                return HINDERED;
            }
            state.cells[State.MEANS] -= price;
            state.like(fighter, 3);
            return state.means();
        }

        int buyFree(State state, int fighter) {
            if (!roster.has(fighter)) {
                return NONE;
            }
            if (!state.isHere(fighter)) {
                return NOT_HERE;
            }
            int purse = State.PURSE + roster.of(Lines.OWNER, fighter);
            int price = 20 * roster.of(Lines.HIRE, fighter);
            if (state.cells[purse] < price) {
                return HINDERED;
            }
            state.cells[purse] -= price;
            state.cells[State.FATE + fighter] = State.FREED;
            return state.cells[purse];
        }
    }

    /** The states ahead of the latest doings, of which the oldest gives way, and those that keep() keeps. */
    private static final class Past {
        private static final int MOST_UNDONE = 12;
        private static final int SHELVES = 2;
        private final State[] states = new State[MOST_UNDONE];
        private final State[] shelves = new State[SHELVES];
        private int first;
        int size;
        private int filled;

        Past() {
            for (int i = 0; i < MOST_UNDONE; i++) {
                states[i] = new State();
            }
            for (int i = 0; i < SHELVES; i++) {
                shelves[i] = new State();
            }
        }

        /** States from ahead of new FIGHTERS or SEATS must not come back: they know nothing of these. */
        void clear() {
            size = 0;
            filled = 0;
        }

        void push(State state) {
            if (size == MOST_UNDONE) {
                first = (first + 1) % MOST_UNDONE;
                size--;
            }
            states[(first + size) % MOST_UNDONE].take(state);
            size++;
        }

        void pop(State into) {
            if (size > 0) {
                size--;
                into.take(states[(first + size) % MOST_UNDONE]);
            }
        }

        boolean shelve(int i, State state) {
            if (i < 0 || i >= SHELVES) {
                return false;
            }
            shelves[i].take(state);
            filled |= 1 << i;
            return true;
        }

        boolean fetch(int i, State into) {
            if (i < 0 || i >= SHELVES || (filled >> i & 1) == 0) {
                return false;
            }
            into.take(shelves[i]);
            size = 0;
            return true;
        }
    }

    /** The best card and the best career: rows are tried in their turn, so that of equal ones the first stays. */
    private static final class Search {
        private static final int MOST_TURNS = 4;
        private static final int MOST_GAIN = 10;
        private final Arena arena;
        private final State[] states = new State[MOST_TURNS + 1];
        private final int[] dead = new int[MOST * MOST];
        private final int[] gain = new int[MOST * MOST];
        private final int[] turns = new int[MOST_TURNS];
        final int[] bestTurns = new int[MOST_TURNS];
        private int wanted;
        private int fighter;
        private boolean found;
        private int best;
        private int bestGain;

        Search(Arena arena) {
            this.arena = arena;
            for (int i = 0; i <= MOST_TURNS; i++) {
                states[i] = new State();
            }
        }

        /** What a pair would do, ahead of leastDead(). */
        void enter(int one, int other, boolean dies, int favourGain) {
            dead[one * MOST + other] = dies ? 1 : 0;
            gain[one * MOST + other] = favourGain;
        }

        int leastDead(int pairs, int able) {
            wanted = pairs;
            found = false;
            addPair(0, 0, able, 0, 0);
            return found ? -best : NONE;
        }

        private void addPair(int depth, int from, int free, int deadYet, int gainYet) {
            if (depth >= wanted || depth >= MOST_TURNS) {
                compare(-deadYet, gainYet);
                return;
            }
            for (int one = from; one < MOST; one++) {
                for (int other = one + 1; other < MOST; other++) {
                    if ((free >> one & free >> other & 1) == 0) {
                        continue;
                    }
                    int pair = one * MOST + other;
                    int left = free & ~(1 << one | 1 << other);
                    turns[depth] = pair;
                    addPair(depth + 1, one + 1, left, deadYet + dead[pair], gainYet + gain[pair]);
                }
            }
        }

        /** FAVOUR at the end, or NONE. */
        int mostFavour(State now, int who, int fights) {
            wanted = fights;
            fighter = who;
            found = false;
            states[0].take(now);
            addFight(0);
            return found ? best : NONE;
        }

        private void addFight(int depth) {
            State state = states[depth];
            if (depth >= wanted || depth >= MOST_TURNS) {
                compare(state.favour(fighter), 0);
                return;
            }
            // No FIGHT gives more than MOST_GAIN: here nothing better may be left.
            if (found && best >= Math.min(99, state.favour(fighter) + MOST_GAIN * (wanted - depth))) {
                return;
            }
            State next = states[depth + 1];
            for (int other = 0; other < MOST; other++) {
                next.take(state);
                if (arena.meet(next, fighter, other) >= 0 && !next.isDead(fighter)) {
                    turns[depth] = other;
                    addFight(depth + 1);
                }
            }
        }

        private void compare(int value, int valueGain) {
            if (found && (value < best || value == best && valueGain <= bestGain)) {
                return;
            }
            found = true;
            best = value;
            bestGain = valueGain;
            System.arraycopy(turns, 0, bestTurns, 0, MOST_TURNS);
        }
    }

    /** Scores on walls, and the orders they leave, counted over sets of those that stand highest. */
    private static final class Wall {
        static final int MOST_SCORES = 20;
        /** Who is above each one by what was told, through others too (bits). */
        final int[] above = new int[MOST];
        private final int[] ordersOf = new int[1 << MOST];
        private final int[] ordersBehind = new int[1 << MOST];
        private int fighters;
        int scores;

        void clear() {
            scores = 0;
            for (int i = 0; i < MOST; i++) {
                above[i] = 0;
            }
        }

        boolean isAbove(int one, int other) {
            return (above[other] >> one & 1) == 1;
        }

        void scratch(int one, int other) {
            int higher = above[one] | 1 << one;
            for (int i = 0; i < MOST; i++) {
                if (i == other || isAbove(other, i)) {
                    above[i] |= higher;
                }
            }
            scores++;
        }

        int countBelow(int fighter) {
            int many = 0;
            for (int i = 0; i < MOST; i++) {
                many += isAbove(fighter, i) ? 1 : 0;
            }
            return many;
        }

        private boolean canFollow(int fighter, int placed) {
            return (placed >> fighter & 1) == 0 && (above[fighter] & ~placed) == 0;
        }

        int leastNext(int placed) {
            for (int i = 0; i < MOST; i++) {
                if (canFollow(i, placed)) {
                    return i;
                }
            }
            return 0;
        }

        /** How many orders there are; the counts for the other questions stand then. */
        int tally(int count) {
            fighters = count;
            int all = (1 << count) - 1;
            for (int set = 0; set <= all; set++) {
                ordersOf[set] = set == 0 ? 1 : 0;
                ordersBehind[set] = set == all ? 1 : 0;
            }
            for (int set = 0; set <= all; set++) {
                for (int i = 0; i < count; i++) {
                    if (canFollow(i, set)) {
                        ordersOf[set | 1 << i] += ordersOf[set];
                    }
                }
            }
            for (int set = all; set >= 0; set--) {
                for (int i = 0; i < count; i++) {
                    if (canFollow(i, set)) {
                        ordersBehind[set] += ordersBehind[set | 1 << i];
                    }
                }
            }
            return ordersOf[all];
        }

        int ordersAt(int fighter, int place) {
            int orders = 0;
            for (int set = 0; set < 1 << fighters; set++) {
                if (Integer.bitCount(set) == place && canFollow(fighter, set)) {
                    orders += ordersOf[set] * ordersBehind[set | 1 << fighter];
                }
            }
            return orders;
        }

        int ordersWithAbove(int one, int other) {
            int orders = 0;
            for (int set = 0; set < 1 << fighters; set++) {
                if ((set >> one & 1) == 1 && canFollow(other, set)) {
                    orders += ordersOf[set] * ordersBehind[set | 1 << other];
                }
            }
            return orders;
        }
    }

    /** What was heard of the one who would not lift his hand. */
    private static final class Hearsay {
        private static final int MOST_HEARD = 12;
        private final int[] kinds = new int[MOST_HEARD];
        private final int[] values = new int[MOST_HEARD];
        int size;

        boolean add(int kind, int value) {
            if (size >= MOST_HEARD || !canBe(kind, value)) {
                return false;
            }
            kinds[size] = kind;
            values[size] = value;
            size++;
            return true;
        }

        private static boolean canBe(int kind, int value) {
            switch (kind) {
                case 0: return value >= 0 && value <= 3;
                case 1: return value >= 0 && value <= 99;
                case 2: return value >= 0 && value < OWNERS;
                case 3: return value >= 1 && value <= 9;
                case 4: return value == 0 || value == 1;
                default: return false;
            }
        }

        int fitting(Lines roster, State state) {
            int bits = 0;
            for (int i = 0; i < roster.count; i++) {
                bits |= fitsAll(roster, state, i) ? 1 << i : 0;
            }
            return bits;
        }

        private boolean fitsAll(Lines roster, State state, int fighter) {
            for (int i = 0; i < size; i++) {
                if (!fitsOne(roster, state, fighter, i)) {
                    return false;
                }
            }
            return true;
        }

        private boolean fitsOne(Lines roster, State state, int fighter, int i) {
            int value = values[i];
            switch (kinds[i]) {
                case 0: return roster.of(Lines.ARMS, fighter) == value;
                case 1: return state.favour(fighter) >= value;
                case 2: return roster.of(Lines.OWNER, fighter) == value;
                case 3: return roster.of(Lines.HIRE, fighter) <= value;
                default: return state.isDead(fighter) == (value == 1);
            }
        }

        int countHiredFor(int most, Lines roster, int fighters) {
            int many = 0;
            for (int i = 0; i < roster.count; i++) {
                many += roster.of(Lines.HIRE, i) <= most ? fighters >> i & 1 : 0;
            }
            return many;
        }
    }
}
