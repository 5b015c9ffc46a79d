import java.math.BigInteger;
import java.util.ArrayList;
import java.util.Arrays;
import java.util.Collections;
import java.util.Comparator;
import java.util.List;
import java.util.NoSuchElementException;
import java.util.Random;
import java.util.regex.Matcher;
import java.util.regex.Pattern;

/**
 * Runs the class side by side with a second reading of the document, written in another way
 * (regular expressions, lists of all candidates, big numbers), over many runs of calls drawn by fixed seeds.
 */
public final class ModelTest {
    private static final int RUNS = 400;
    private static final int CALLS = 500;

    public static void main(String[] args) {
        int wrong = 0;
        for (int run = 0; run < RUNS && wrong < 5; run++) {
            String fault = new Run(run).play();
            if (fault != null) {
                wrong++;
                System.out.println("run " + run + ": " + fault);
            }
        }
        System.out.println(wrong == 0 ? "the model agrees in " + RUNS + " runs" : wrong + " runs disagree");
        if (wrong != 0) {
            System.exit(1);
        }
    }

    /** One run of calls on both. */
    private static final class Run {
        final Random random;
        final ByTheThumbs real = new ByTheThumbs();
        final Model model = new Model();
        final List<String> log = new ArrayList<>();

        Run(int seed) {
            random = new Random(seed * 7919L + 17);
        }

        String play() {
            for (int i = 0; i < CALLS; i++) {
                String[] answers = step();
                log.add(answers[0] + " -> " + answers[1]);
                if (!answers[1].equals(answers[2])) {
                    return tell(answers[0] + " answered " + answers[1] + ", the model " + answers[2]);
                }
                String real1 = realView();
                String model1 = model.view();
                if (!real1.equals(model1)) {
                    return tell("behind " + answers[0] + ":\n real  " + real1 + "\n model " + model1);
                }
            }
            return null;
        }

        String tell(String fault) {
            return fault + "\n  " + String.join("\n  ", log.subList(Math.max(0, log.size() - 30), log.size()));
        }

        String realView() {
            StringBuilder b = new StringBuilder();
            for (int what = 0; what <= 13; what++) {
                b.append(real.count(what)).append(' ');
            }
            b.append("row");
            for (int i = 0; i < real.count(12); i++) {
                b.append(' ').append(real.row(i));
            }
            for (int i = 0; i < real.count(0); i++) {
                b.append(" f");
                for (int what = 0; what <= 8; what++) {
                    b.append(real.fighter(i, what)).append(',');
                }
            }
            for (int i = 0; i < real.count(1); i++) {
                b.append(" s").append(real.seat(i, 0)).append(',').append(real.seat(i, 1)).append(',').append(real.seat(i, 2));
            }
            for (int i = 0; i < 4; i++) {
                b.append(" p").append(real.purse(i));
            }
            return b.toString();
        }

        int some(int from, int to) {
            if (random.nextInt(60) == 0) {
                int[] odd = {Integer.MIN_VALUE, Integer.MAX_VALUE, -1, -2, to + 1, from - 1, 100, 10000};
                return odd[random.nextInt(odd.length)];
            }
            return from + random.nextInt(to - from + 1);
        }

        int fighter() {
            return some(0, Math.max(0, model.fs.size() - 1));
        }

        /** Feeds a text to both. */
        void feed(String text) {
            real.end(0);
            model.end(0);
            for (int i = 0; i < text.length(); i += 4) {
                int v = 0;
                for (int j = 0; j < 4; j++) {
                    v = v << 8 | (i + j < text.length() ? text.charAt(i + j) : 0);
                }
                if (real.sign(v) != model.sign(v)) {
                    throw new IllegalStateException("sign");
                }
            }
            if (real.end(text.length()) != model.end(text.length())) {
                throw new IllegalStateException("end");
            }
        }

        String spoil(String text) {
            if (random.nextInt(3) != 0) {
                return text;
            }
            StringBuilder b = new StringBuilder(text);
            String signs = "nsplhwfaedb0123456789;,:.<>=+-*/()x \u0000\u00e9";
            int at = random.nextInt(b.length() + 1);
            char sign = signs.charAt(random.nextInt(signs.length()));
            switch (random.nextInt(4)) {
                case 0: b.insert(at, sign); break;
                case 1: if (at < b.length()) b.setCharAt(at, sign); break;
                case 2: if (at < b.length()) b.deleteCharAt(at); break;
                default: b.setLength(at);
            }
            return b.length() > 80 ? b.substring(0, 80) : b.toString();
        }

        String fightersText() {
            StringBuilder b = new StringBuilder();
            int lines = random.nextInt(12) == 0 ? 9 + random.nextInt(3) : 1 + random.nextInt(3);
            for (int i = 0; i < lines; i++) {
                b.append(i == 0 ? "" : ";").append("nspl".charAt(random.nextInt(4))).append(1 + random.nextInt(9));
                b.append(1 + random.nextInt(9)).append(random.nextInt(4)).append(random.nextInt(100));
            }
            return spoil(b.length() > 80 ? b.substring(0, 80) : b.toString());
        }

        String seatsText() {
            StringBuilder b = new StringBuilder();
            int lines = random.nextInt(12) == 0 ? 9 + random.nextInt(3) : 1 + random.nextInt(3);
            for (int i = 0; i < lines; i++) {
                b.append(i == 0 ? "" : ";").append(random.nextInt(20) == 0 ? random.nextInt(3) : 1 + random.nextInt(99));
                b.append(',').append(random.nextInt(100)).append(',').append(random.nextInt(random.nextBoolean() ? 4 : 10));
            }
            return spoil(b.length() > 80 ? b.substring(0, 80) : b.toString());
        }

        String ruleText() {
            String text = expression(3 + random.nextInt(10), 0);
            if (random.nextInt(6) == 0) {
                StringBuilder longer = new StringBuilder(text);
                while (longer.length() < 38 + random.nextInt(5)) {
                    longer.append(random.nextBoolean() ? "+1" : "-s");
                }
                text = longer.toString();
            }
            return spoil(text.length() > 80 ? text.substring(0, 80) : text);
        }

        String expression(int size, int depth) {
            StringBuilder b = new StringBuilder();
            int things = 1 + random.nextInt(Math.max(1, size / 3));
            for (int i = 0; i < things; i++) {
                if (i > 0) {
                    b.append("+-*/+-*/<>=".charAt(random.nextInt(11)));
                }
                while (random.nextInt(6) == 0) {
                    b.append('-');
                }
                int kind = random.nextInt(4);
                if (kind == 0) {
                    b.append(random.nextInt(random.nextBoolean() ? 10 : 1000));
                } else if (kind == 1 && depth < 5) {
                    b.append('(').append(expression(size - 2, depth + 1)).append(')');
                } else {
                    b.append("shwflaed".charAt(random.nextInt(8)));
                }
            }
            return b.toString();
        }

        String gamesText() {
            StringBuilder b = new StringBuilder();
            int acts = random.nextInt(10) == 0 ? 18 + random.nextInt(12) : random.nextInt(8);
            int most = Math.max(1, Math.min(9, model.fs.size()));
            for (int i = 0; i < acts; i++) {
                switch (random.nextInt(6)) {
                    case 0: b.append('d').append(1 + random.nextInt(9)); break;
                    case 1: b.append('s').append(random.nextInt(most)); break;
                    case 2: b.append(random.nextInt(5) == 0 ? 'b' : 's').append(random.nextInt(most)); break;
                    default: b.append('f').append(random.nextInt(most)).append(random.nextInt(most));
                }
            }
            return spoil(b.length() > 80 ? b.substring(0, 80) : b.toString());
        }

        String[] step() {
            int kind = random.nextInt(60);
            if (log.size() < 6) {
                kind = log.size() % 2 == 0 ? 2 : 3;
            }
            if (kind == 2 || kind == 3 || kind == 4 || kind == 20 || kind == 44) {
                return textCall(kind);
            }
            int a = fighter();
            int b = fighter();
            switch (kind) {
                case 0: { int v = random.nextInt(); return three("sign(" + v + ")", real.sign(v), model.sign(v)); }
                case 1: { int n = some(0, 80); return three("end(" + n + ")", real.end(n), model.end(n)); }
                case 5: { int w = some(0, 8); return three("fighter(" + a + "," + w + ")", throwing(0, a, w), model.throwing(0, a, w)); }
                case 6: { int w = some(0, 2); return three("seat(" + a + "," + w + ")", throwing(1, a, w), model.throwing(1, a, w)); }
                case 7: { int o = some(0, 3); return three("purse(" + o + ")", real.purse(o), model.purse(o)); }
                case 8: case 9: return three("strength(" + a + "," + b + ")", throwing(2, a, b), model.throwing(2, a, b));
                case 10: { int w = some(0, 1); int v = w == 0 ? some(1, 9) : some(0, random.nextBoolean() ? 600 : 9999);
                    return three("set(" + w + "," + v + ")", real.set(w, v), model.set(w, v)); }
                case 11: { if (random.nextInt(3) != 0) return step();
                    int k = some(0, 3); int n = some(-1, 8); int f = some(-100, 700); int s = some(-70, 70);
                    return three("sheet(" + k + "," + n + "," + f + "," + s + ")", real.sheet(k, n, f, s), model.sheet(k, n, f, s)); }
                case 12: case 13: case 14: return three("fight(" + a + "," + b + ")", real.fight(a, b), model.fight(a, b));
                case 15: { int n = some(1, random.nextBoolean() ? 4 : 30); return three("days(" + n + ")", real.days(n), model.days(n)); }
                case 16: { int n = some(1, 99); return three("song(" + a + "," + n + ")", real.song(a, n), model.song(a, n)); }
                case 17: return three("frees(" + a + ")", real.frees(a), model.frees(a));
                case 18: case 19: case 57: return three("undo()", real.undo(), model.undo());
                case 21: return three("thumbs(" + a + ")", real.thumbs(a), model.thumbs(a));
                case 22: return three("mercy()", real.mercy(), model.mercy());
                case 23: return three("claque(" + a + ")", real.claque(a), model.claque(a));
                case 24: return three("tips(" + a + ")", real.tips(a), model.tips(a));
                case 25: case 26: return three("would(" + a + "," + b + ")", real.would(a, b), model.would(a, b));
                case 27: return three("beats(" + a + ")", real.beats(a), model.beats(a));
                case 28: { int n = some(1, 4); return three("card(" + n + ")", real.card(n), model.card(n)); }
                case 29: return three("even()", real.even(), model.even());
                case 30: { int n = some(1, 4); return three("career(" + a + "," + n + ")", real.career(a, n), model.career(a, n)); }
                case 31: return three("sword(" + a + "," + b + ")", real.sword(a, b), model.sword(a, b));
                case 32: { int o = some(0, 3); return three("worth(" + o + ")", real.worth(o), model.worth(o)); }
                case 33: { int n = some(0, 50); return three("hires(" + n + ")", real.hires(n), model.hires(n)); }
                case 34: case 35: return three("score(" + a + "," + b + ")", real.score(a, b), model.score(a, b));
                default: return lateStep(kind, a, b);
            }
        }

        String[] lateStep(int kind, int a, int b) {
            switch (kind) {
                case 36: return random.nextInt(4) != 0 ? step() : three("wash()", real.wash(), model.wash());
                case 37: return random.nextInt(3) != 0 ? step() : three("ranks()", real.ranks(), model.ranks());
                case 38: { if (random.nextInt(3) != 0) return step();
                    int p = some(0, Math.max(0, model.fs.size() - 1));
                    return three("stands(" + a + "," + p + ")", real.stands(a, p), model.stands(a, p)); }
                case 39: return random.nextInt(3) != 0 ? step() : three("places(" + a + ")", real.places(a), model.places(a));
                case 40: return random.nextInt(3) != 0 ? step() : three("watch()", real.watch(), model.watch());
                case 41: { int n = some(1, 10); int k = some(0, 10); int p = some(0, 10);
                    return three("odds(" + n + "," + k + "," + p + ")", real.odds(n, k, p), model.odds(n, k, p)); }
                case 42: { int n = some(1, 6); int k = some(1, 6); int p = some(0, 10);
                    return three("till(" + n + "," + k + "," + p + ")", real.till(n, k, p), model.till(n, k, p)); }
                case 43: case 45: { int w = some(0, 4); int v = some(0, new int[] {3, 99, 3, 9, 1}[Math.max(0, Math.min(4, w))]);
                    return three("heard(" + w + "," + v + ")", real.heard(w, v), model.heard(w, v)); }
                case 46: return random.nextInt(4) != 0 ? step() : three("forget()", real.forget(), model.forget());
                case 47: return three("fits()", real.fits(), model.fits());
                case 48: return three("ask()", real.ask(), model.ask());
                case 49: { int v = some(0, 99); return three("rests(" + v + ")", real.rests(v), model.rests(v)); }
                case 50: { int s = random.nextInt(); int n = some(1, 60);
                    return three("years(" + s + "," + n + ")", real.years(s, n), model.years(s, n)); }
                case 51: { int i = some(0, 1); return three("keep(" + i + ")", real.keep(i), model.keep(i)); }
                case 52: case 58: { int i = some(0, 1); return three("again(" + i + ")", real.again(i), model.again(i)); }
                case 53: { int w = some(0, 13); return three("count(" + w + ")", real.count(w), model.count(w)); }
                case 54: { int i = some(0, 4); return three("row(" + i + ")", throwing(3, i, 0), model.throwing(3, i, 0)); }
                default: return step();
            }
        }

        String[] textCall(int kind) {
            boolean empty = random.nextInt(12) == 0;
            if ((kind == 2 || kind == 3) && log.size() > 30 && random.nextInt(6) != 0) {
                return step();
            }
            switch (kind) {
                case 2: { String t = empty ? "" : fightersText(); feed(t); return three("fighters() " + t, real.fighters(), model.fighters()); }
                case 3: { String t = empty ? "" : seatsText(); feed(t); return three("seats() " + t, real.seats(), model.seats()); }
                case 4: { String t = empty ? "" : ruleText(); feed(t); return three("rule() " + t, real.rule(), model.rule()); }
                case 20: { String t = empty ? "" : gamesText(); feed(t); return three("games() " + t, real.games(), model.games()); }
                default: { String t = empty ? "" : ruleText(); feed(t); return three("law() " + t, real.law(), model.law()); }
            }
        }

        String throwing(int call, int a, int b) {
            try {
                switch (call) {
                    case 0: return "" + real.fighter(a, b);
                    case 1: return "" + real.seat(a, b);
                    case 2: return "" + real.strength(a, b);
                    default: return "" + real.row(a);
                }
            } catch (NoSuchElementException e) {
                return "throws";
            }
        }

        static String[] three(String call, Object real, Object model) {
            return new String[] {call, "" + real, "" + model};
        }
    }

    private static final class F {
        int arms, skill, hire, owner, favour, hurt, fought, won, fate;

        F copy() {
            F f = new F();
            f.arms = arms; f.skill = skill; f.hire = hire; f.owner = owner; f.favour = favour;
            f.hurt = hurt; f.fought = fought; f.won = won; f.fate = fate;
            return f;
        }
    }

    private static final class World {
        List<F> fs = new ArrayList<>();
        boolean[][] seen = new boolean[4][4];
        int means = 1000;
        int[] purses = new int[4];
        int day;

        World copy() {
            World w = new World();
            for (F f : fs) {
                w.fs.add(f.copy());
            }
            for (int i = 0; i < 4; i++) {
                w.seen[i] = seen[i].clone();
            }
            w.means = means; w.purses = purses.clone(); w.day = day;
            return w;
        }
    }

    /** The document, read a second time. */
    private static final class Model {
        static final String STANDARD = "s*10-h*6+w*2+(a>e)*3";
        World world = new World();
        List<F> fs = world.fs;
        List<int[]> seats = new ArrayList<>();
        String text = "";
        String rule = STANDARD;
        int sword = 5;
        List<Long> row = new ArrayList<>();
        List<World> past = new ArrayList<>();
        World[] kept = new World[2];
        List<int[]> scores = new ArrayList<>();
        List<int[]> heard = new ArrayList<>();

        void become(World w) {
            world = w;
            fs = w.fs;
        }

        String view() {
            StringBuilder b = new StringBuilder();
            for (int what = 0; what <= 13; what++) {
                b.append(count(what)).append(' ');
            }
            b.append("row");
            for (long n : row) {
                b.append(' ').append(n);
            }
            for (F f : fs) {
                b.append(" f");
                for (int n : parts(f)) {
                    b.append(n).append(',');
                }
            }
            for (int[] s : seats) {
                b.append(" s").append(s[0]).append(',').append(s[1]).append(',').append(s[2]);
            }
            for (int p : world.purses) {
                b.append(" p").append(p);
            }
            return b.toString();
        }

        static int[] parts(F f) {
            return new int[] {f.arms, f.skill, f.hire, f.owner, f.favour, f.hurt, f.fought, f.won, f.fate};
        }

        void tell(long... numbers) {
            row = new ArrayList<>();
            for (long n : numbers) {
                row.add(n);
            }
        }

        boolean is(int fighter) {
            return fighter >= 0 && fighter < fs.size();
        }

        int sign(int v) {
            if (text.length() + 4 > 80) {
                return -1;
            }
            text += "" + (char) (v >>> 24) + (char) (v >> 16 & 255) + (char) (v >> 8 & 255) + (char) (v & 255);
            return text.length();
        }

        boolean end(int n) {
            if (n < 0 || n > text.length()) {
                return false;
            }
            text = text.substring(0, n);
            return true;
        }

        String takeText() {
            String t = text;
            text = "";
            return t;
        }

        /** The first place at which the signs up to and with it are the beginning of nothing that matches; -1 if all matches. */
        static int wrongAt(String t, String form, int limit) {
            Pattern pattern = Pattern.compile(form, Pattern.DOTALL);
            for (int p = 0; p < Math.min(limit, t.length()); p++) {
                Matcher m = pattern.matcher(t.substring(0, p + 1));
                if (!m.matches() && !m.hitEnd()) {
                    return p;
                }
            }
            if (t.length() > limit) {
                return limit;
            }
            return pattern.matcher(t).matches() ? -1 : t.length();
        }

        int lines(String t, String line, int limit, int room) {
            String form = room == 0 ? "(?!.)" : line + "(;" + line + "){0," + (room - 1) + "}";
            int wrong = room == 0 ? 0 : wrongAt(t, form, limit);
            // A ; behind the last LINE that has room stands; what follows does not.
            if (room > 0 && wrong >= 0 && wrong < t.length() && t.charAt(wrong) == ';' && t.substring(0, wrong).matches(form)) {
                wrong++;
            }
            return wrong;
        }

        int fighters() {
            String t = takeText();
            if (t.isEmpty()) {
                return 0;
            }
            int wrong = lines(t, "[nspl][1-9][1-9][0-3][0-9]{1,2}", 62, 8 - fs.size());
            if (wrong >= 0) {
                return -1 - wrong;
            }
            String[] parts = t.split(";");
            for (String p : parts) {
                F f = new F();
                f.arms = "nspl".indexOf(p.charAt(0));
                f.skill = p.charAt(1) - '0';
                f.hire = p.charAt(2) - '0';
                f.owner = p.charAt(3) - '0';
                f.favour = Integer.parseInt(p.substring(4));
                fs.add(f);
            }
            past.clear();
            kept = new World[2];
            return parts.length;
        }

        int seats() {
            String t = takeText();
            if (t.isEmpty()) {
                return 0;
            }
            int wrong = lines(t, "[0-9]{1,2},[0-9]{1,2},[0-9]", 76, 8 - seats.size());
            Matcher m = Pattern.compile("(?<=^|;)(0{1,2})(?![0-9])|(?<=^|;)00").matcher(t);
            if (m.find() && (wrong < 0 || m.end() - 1 < wrong)) {
                wrong = m.end() - 1;
            }
            if (wrong >= 0) {
                return -1 - wrong;
            }
            String[] parts = t.split(";");
            for (String p : parts) {
                String[] n = p.split(",");
                seats.add(new int[] {Integer.parseInt(n[0]), Integer.parseInt(n[1]), Integer.parseInt(n[2])});
            }
            past.clear();
            kept = new World[2];
            return parts.length;
        }

        /** Looks at a RULE sign by sign, with a stack of what is open. */
        static int wrongInRule(String t) {
            List<Boolean> compared = new ArrayList<>(List.of(false));
            boolean operand = true;
            int digits = 0;
            for (int p = 0; p < t.length(); p++) {
                char c = t.charAt(p);
                if (p == 40) {
                    return 40;
                }
                int top = compared.size() - 1;
                if (operand) {
                    if (c == '-') {
                        continue;
                    }
                    if (c == '(' && top < 4) {
                        compared.add(false);
                    } else if (c >= '0' && c <= '9') {
                        digits = 1;
                        operand = false;
                    } else if ("shwflaed".indexOf(c) >= 0) {
                        digits = 0;
                        operand = false;
                    } else {
                        return p;
                    }
                } else if (c >= '0' && c <= '9' && digits >= 1 && digits < 3) {
                    digits++;
                } else if ("+-*/".indexOf(c) >= 0) {
                    operand = true;
                } else if ("<>=".indexOf(c) >= 0 && !compared.get(top)) {
                    compared.set(top, true);
                    operand = true;
                } else if (c == ')' && top > 0) {
                    compared.remove(top);
                    digits = 0;
                } else {
                    return p;
                }
            }
            return operand || compared.size() > 1 ? t.length() : -1;
        }

        /** The value of a RULE, by cutting it at the operator that binds least and stands last. */
        static int value(String t, F f, F g, int day) {
            for (String operators : new String[] {"<>=", "+-", "*/"}) {
                int at = lastOperator(t, operators);
                if (at >= 0) {
                    int left = value(t.substring(0, at), f, g, day);
                    int right = value(t.substring(at + 1), f, g, day);
                    switch (t.charAt(at)) {
                        case '<': return left < right ? 1 : 0;
                        case '>': return left > right ? 1 : 0;
                        case '=': return left == right ? 1 : 0;
                        case '+': return left + right;
                        case '-': return left - right;
                        case '*': return left * right;
                        default: return right == 0 ? 0 : (int) ((long) left / right);
                    }
                }
            }
            char c = t.charAt(0);
            if (c == '-') {
                return -value(t.substring(1), f, g, day);
            }
            if (c == '(') {
                return value(t.substring(1, t.length() - 1), f, g, day);
            }
            switch (c) {
                case 's': return f.skill;
                case 'h': return f.hurt;
                case 'w': return f.won;
                case 'f': return f.fought;
                case 'l': return f.favour / 10;
                case 'a': return f.arms;
                case 'e': return g.arms;
                case 'd': return day % 8;
                default: return Integer.parseInt(t);
            }
        }

        static int lastOperator(String t, String operators) {
            int open = 0;
            for (int i = t.length() - 1; i > 0; i--) {
                char c = t.charAt(i);
                open += c == ')' ? 1 : c == '(' ? -1 : 0;
                char ahead = t.charAt(i - 1);
                boolean binary = Character.isLetterOrDigit(ahead) || ahead == ')';
                if (open == 0 && binary && operators.indexOf(c) >= 0) {
                    return i;
                }
            }
            return -1;
        }

        int rule() {
            String t = takeText();
            int wrong = t.isEmpty() ? -1 : wrongInRule(t);
            if (wrong >= 0) {
                return -1 - wrong;
            }
            rule = t.isEmpty() ? STANDARD : t;
            return 0;
        }

        String throwing(int call, int a, int b) {
            boolean bad;
            switch (call) {
                case 0: return !is(a) || b < 0 || b > 8 ? "throws" : "" + parts(fs.get(a))[b];
                case 1: bad = a < 0 || a >= seats.size() || b < 0 || b > 2; return bad ? "throws" : "" + seats.get(a)[b];
                case 2: return !is(a) || !is(b) || a == b ? "throws" : "" + strength(world, rule, a, b);
                default: return a < 0 || a >= row.size() ? "throws" : "" + row.get(a);
            }
        }

        static int strength(World w, String rule, int one, int other) {
            return value(rule, w.fs.get(one), w.fs.get(other), w.day);
        }

        int purse(int owner) {
            return owner < 0 || owner > 3 ? -1 : world.purses[owner];
        }

        int set(int what, int v) {
            int was = what == 0 ? sword : world.means;
            if (what == 0 && v > 0 && v < 10) {
                sword = v;
                return was;
            }
            if (what == 1 && v >= 0 && v < 10000) {
                world.means = v;
                return was;
            }
            return -1;
        }

        int sheet(int kind, int n, int f, int step) {
            if (kind < 0 || kind > 3 || n > 8) {
                return -1;
            }
            if (kind != 3 && n < 0) {
                return -2;
            }
            int sum = 0;
            for (int i = 0; i < fs.size(); i++) {
                int entry = f;
                for (int j = 0; j < i; j++) {
                    entry += step;
                }
                entry = kind == 0 ? (byte) entry : kind == 1 ? (short) entry : entry;
                fs.get(i).favour = kind == 3 || i >= n ? 0 : entry < 0 ? 0 : entry > 99 ? 99 : entry;
                sum += fs.get(i).favour;
            }
            return kind == 3 ? -3 : sum;
        }

        int can(World w, int one, int other) {
            if (one < 0 || other < 0 || one >= w.fs.size() || other >= w.fs.size() || one == other) {
                return -1;
            }
            if (w.fs.get(one).fate != 0 || w.fs.get(other).fate != 0) {
                return -2;
            }
            return w.fs.get(one).hurt == 9 || w.fs.get(other).hurt == 9 ? -3 : 0;
        }

        static int bound(int favour) {
            return favour < 0 ? 0 : favour > 99 ? 99 : favour;
        }

        int doFight(World w, int one, int other) {
            int can = can(w, one, other);
            if (can < 0) {
                return can;
            }
            F first = w.fs.get(one);
            F second = w.fs.get(other);
            for (F f : new F[] {first, second}) {
                int paid = f.hire < w.means ? f.hire : w.means;
                w.means -= paid;
                w.purses[f.owner] += paid;
            }
            boolean firstWins = !(strength(w, rule, other, one) > strength(w, rule, one, other));
            F winner = firstWins ? first : second;
            F loser = firstWins ? second : first;
            boolean isNew = !w.seen[first.arms][second.arms] && !w.seen[second.arms][first.arms];
            w.seen[first.arms][second.arms] = true;
            first.favour = bound(first.favour + (isNew ? 6 : -2));
            second.favour = bound(second.favour + (isNew ? 6 : -2));
            winner.favour = bound(winner.favour + 4);
            loser.hurt = loser.hurt > 6 ? 9 : loser.hurt + 3;
            first.fought++;
            second.fought++;
            winner.won++;
            if (!spared(loser.favour, List.of(), List.of()) && w.means >= 50 * loser.hire) {
                loser.fate = 1;
                w.means -= 50 * loser.hire;
                w.purses[loser.owner] += 50 * loser.hire;
            }
            for (F f : new F[] {first, second}) {
                f.fate = f.fate == 1 ? 1 : f.fought >= sword ? 2 : f.fate;
            }
            return firstWins ? one : other;
        }

        int doDays(World w, int n) {
            if (n < 1 || n > 30) {
                return -1;
            }
            for (F f : w.fs) {
                for (int i = 0; i < n && f.fate == 0 && f.hurt > 0; i++) {
                    f.hurt--;
                }
            }
            return w.day += n;
        }

        int doSong(World w, int fighter, int n) {
            if (!is(fighter) || n < 1 || n > 99) {
                return -1;
            }
            F f = w.fs.get(fighter);
            if (f.fate != 0) {
                return -2;
            }
            if (w.means < n) {
                return -3;
            }
            f.favour = bound(f.favour + 3);
            return w.means -= n;
        }

        int doFrees(World w, int fighter) {
            if (!is(fighter)) {
                return -1;
            }
            F f = w.fs.get(fighter);
            if (f.fate != 0) {
                return -2;
            }
            if (w.purses[f.owner] < 20 * f.hire) {
                return -3;
            }
            f.fate = 2;
            return w.purses[f.owner] -= 20 * f.hire;
        }

        int remember(World ahead, int answer) {
            if (answer >= 0) {
                past.add(ahead);
                if (past.size() > 12) {
                    past.remove(0);
                }
            }
            return answer;
        }

        int fight(int one, int other) {
            World ahead = world.copy();
            int winner = remember(ahead, doFight(world, one, other));
            if (winner >= 0) {
                F loser = fs.get(winner == one ? other : one);
                tell(loser.fate == 1 ? 1 : 0, fs.get(one).favour, fs.get(other).favour, world.means);
            }
            return winner;
        }

        int days(int n) {
            World ahead = world.copy();
            return remember(ahead, doDays(world, n));
        }

        int song(int fighter, int n) {
            World ahead = world.copy();
            return remember(ahead, doSong(world, fighter, n));
        }

        int frees(int fighter) {
            World ahead = world.copy();
            return remember(ahead, doFrees(world, fighter));
        }

        int games() {
            String t = takeText();
            int wrong = wrongAt(t, "(f[0-9][0-9]|d[1-9]|[sb][0-9])*", 60);
            if (wrong >= 0) {
                return -1 - wrong;
            }
            World ahead = world.copy();
            int done = 0;
            int failed = 0;
            int dead = 0;
            Matcher m = Pattern.compile("f([0-9])([0-9])|d([1-9])|s([0-9])|b([0-9])").matcher(t);
            while (failed == 0 && m.find()) {
                int answer;
                if (m.group(1) != null) {
                    int one = Integer.parseInt(m.group(1));
                    int other = Integer.parseInt(m.group(2));
                    answer = doFight(world, one, other);
                    dead += answer >= 0 && fs.get(answer == one ? other : one).fate == 1 ? 1 : 0;
                } else if (m.group(3) != null) {
                    answer = doDays(world, Integer.parseInt(m.group(3)));
                } else if (m.group(4) != null) {
                    answer = doSong(world, Integer.parseInt(m.group(4)), 5);
                } else {
                    answer = doFrees(world, Integer.parseInt(m.group(5)));
                }
                if (answer < 0) {
                    failed = 1;
                } else {
                    done++;
                }
            }
            if (done > 0) {
                remember(ahead, 0);
            }
            tell(failed, dead);
            return done;
        }

        int undo() {
            if (past.isEmpty()) {
                return -1;
            }
            become(past.remove(past.size() - 1));
            return past.size();
        }

        /** Who is up, for a FAVOUR, of SEATS without some, if some are won over. */
        List<Integer> up(int favour, List<Integer> won, List<Integer> home) {
            List<Integer> up = new ArrayList<>();
            boolean more = true;
            while (more) {
                more = false;
                for (int i = 0; i < seats.size(); i++) {
                    if (up.contains(i) || home.contains(i)) {
                        continue;
                    }
                    int[] s = seats.get(i);
                    if (won.contains(i) || favour >= s[1] || s[2] > 0 && up.size() >= s[2]) {
                        up.add(i);
                        more = true;
                    }
                }
            }
            Collections.sort(up);
            return up;
        }

        int people(List<Integer> some) {
            int sum = 0;
            for (int i : some) {
                sum += seats.get(i)[0];
            }
            return sum;
        }

        boolean spared(int favour, List<Integer> won, List<Integer> home) {
            int all = 0;
            for (int i = 0; i < seats.size(); i++) {
                all += home.contains(i) ? 0 : seats.get(i)[0];
            }
            return people(up(favour, won, home)) * 2 >= all;
        }

        static int bits(List<Integer> some) {
            int bits = 0;
            for (int i : some) {
                bits += 1 << i;
            }
            return bits;
        }

        static List<Integer> members(int bits) {
            List<Integer> some = new ArrayList<>();
            for (int i = 0; i < 8; i++) {
                if ((bits & 1 << i) != 0) {
                    some.add(i);
                }
            }
            return some;
        }

        int thumbs(int fighter) {
            if (!is(fighter)) {
                return -1;
            }
            List<Integer> up = up(fs.get(fighter).favour, List.of(), List.of());
            tell(people(up), spared(fs.get(fighter).favour, List.of(), List.of()) ? 1 : 0);
            return bits(up);
        }

        int mercy() {
            int favour = 0;
            while (favour < 100 && !spared(favour, List.of(), List.of())) {
                favour++;
            }
            return favour == 100 ? -2 : favour;
        }

        int claque(int fighter) {
            if (!is(fighter)) {
                return -1;
            }
            for (int many = 0; many <= seats.size(); many++) {
                for (int set = 0; set < 1 << seats.size(); set++) {
                    if (members(set).size() == many && spared(fs.get(fighter).favour, members(set), List.of())) {
                        tell(set);
                        return many;
                    }
                }
            }
            throw new IllegalStateException();
        }

        int tips(int fighter) {
            if (!is(fighter)) {
                return -1;
            }
            List<Integer> tips = new ArrayList<>();
            int favour = fs.get(fighter).favour;
            for (int i = 0; i < seats.size(); i++) {
                if (spared(favour, List.of(), List.of()) != spared(favour, List.of(), List.of(i))) {
                    tips.add(i);
                }
            }
            tell(tips.size());
            return bits(tips);
        }

        /** Winner, 1 if the loser is DEAD, FAVOUR more, paid; or what hinders. */
        int[] outlook(int one, int other) {
            World w = world.copy();
            int winner = doFight(w, one, other);
            if (winner < 0) {
                return new int[] {winner, 0, 0, 0};
            }
            int gain = w.fs.get(one).favour + w.fs.get(other).favour - fs.get(one).favour - fs.get(other).favour;
            int dead = w.fs.get(one).fate == 1 || w.fs.get(other).fate == 1 ? 1 : 0;
            return new int[] {winner, dead, gain, world.means - w.means};
        }

        int would(int one, int other) {
            int[] o = outlook(one, other);
            if (o[0] < 0) {
                return o[0];
            }
            tell(o[2], o[3]);
            return 2 * o[0] + o[1];
        }

        int beats(int one) {
            if (!is(one)) {
                return -1;
            }
            if (fs.get(one).fate != 0 || fs.get(one).hurt == 9) {
                return -2;
            }
            List<Integer> beaten = new ArrayList<>();
            int dead = 0;
            for (int i = 0; i < fs.size(); i++) {
                int[] o = outlook(one, i);
                if (o[0] == one) {
                    beaten.add(i);
                    dead += o[1];
                }
            }
            tell(dead);
            return bits(beaten);
        }

        List<Integer> able() {
            List<Integer> able = new ArrayList<>();
            for (int i = 0; i < fs.size(); i++) {
                if (fs.get(i).fate == 0 && fs.get(i).hurt < 9) {
                    able.add(i);
                }
            }
            return able;
        }

        static int compareRows(List<Integer> a, List<Integer> b) {
            for (int i = 0; i < a.size(); i++) {
                if (!a.get(i).equals(b.get(i))) {
                    return a.get(i) - b.get(i);
                }
            }
            return 0;
        }

        int card(int n) {
            if (n < 1 || n > 4) {
                return -1;
            }
            if (able().size() < 2 * n) {
                return -2;
            }
            List<List<Integer>> rows = new ArrayList<>();
            collectCards(n, able(), new ArrayList<>(), rows);
            int[][][] o = new int[8][8][];
            for (int i : able()) {
                for (int j : able()) {
                    o[i][j] = outlook(i, j);
                }
            }
            List<Integer> best = Collections.min(rows, Comparator
                .comparingInt((List<Integer> r) -> total(r, o, 1)).thenComparingInt(r -> -total(r, o, 2)).thenComparing(Model::compareRows));
            tell(best.stream().mapToLong(i -> i).toArray());
            return total(best, o, 1);
        }

        static int total(List<Integer> r, int[][][] o, int what) {
            int sum = 0;
            for (int i = 0; i < r.size(); i += 2) {
                sum += o[r.get(i)][r.get(i + 1)][what];
            }
            return sum;
        }

        /** Backwards, so that the turn in which they come is no help. */
        void collectCards(int n, List<Integer> free, List<Integer> yet, List<List<Integer>> rows) {
            if (n == 0) {
                rows.add(new ArrayList<>(yet));
                return;
            }
            for (int i = free.size() - 1; i >= 0; i--) {
                for (int j = free.size() - 1; j > i; j--) {
                    int one = free.get(i);
                    if (!yet.isEmpty() && yet.get(yet.size() - 2) > one) {
                        continue;
                    }
                    List<Integer> left = new ArrayList<>(free);
                    left.removeAll(List.of(one, free.get(j)));
                    List<Integer> more = new ArrayList<>(yet);
                    more.add(one);
                    more.add(free.get(j));
                    collectCards(n - 1, left, more, rows);
                }
            }
        }

        int even() {
            List<Integer> able = able();
            long least = Long.MAX_VALUE;
            for (int j = able.size() - 1; j >= 0; j--) {
                for (int i = j - 1; i >= 0; i--) {
                    least = Math.min(least, gap(able.get(i), able.get(j)));
                }
            }
            for (int i : able) {
                for (int j : able) {
                    if (i < j && gap(i, j) == least) {
                        tell(i, j);
                        return least > 9999 ? 9999 : (int) least;
                    }
                }
            }
            return -2;
        }

        long gap(int i, int j) {
            long d = (long) strength(world, rule, i, j) - (long) strength(world, rule, j, i);
            return d < 0 ? -d : d;
        }

        int career(int fighter, int n) {
            if (!is(fighter) || n < 1 || n > 4) {
                return -1;
            }
            List<List<Integer>> rows = new ArrayList<>();
            collectCareers(world, fighter, n, new ArrayList<>(), rows);
            if (rows.isEmpty()) {
                return -2;
            }
            Comparator<List<Integer>> better = Comparator.comparingInt((List<Integer> r) -> -r.get(n));
            List<Integer> best = Collections.min(rows, better.thenComparing(Model::compareRows));
            tell(best.subList(0, n).stream().mapToLong(i -> i).toArray());
            return best.get(n);
        }

        void collectCareers(World w, int fighter, int n, List<Integer> yet, List<List<Integer>> rows) {
            if (n == 0) {
                List<Integer> whole = new ArrayList<>(yet);
                whole.add(w.fs.get(fighter).favour);
                rows.add(whole);
                return;
            }
            for (int other = fs.size() - 1; other >= 0; other--) {
                if (can(w, fighter, other) != 0) {
                    continue;
                }
                World next = w.copy();
                doFight(next, fighter, other);
                if (next.fs.get(fighter).fate == 1) {
                    continue;
                }
                yet.add(other);
                collectCareers(next, fighter, n - 1, yet, rows);
                yet.remove(yet.size() - 1);
            }
        }

        int sword(int fighter, int other) {
            if (!is(fighter) || !is(other) || fighter == other) {
                return -1;
            }
            World w = world.copy();
            if (can(w, fighter, other) != 0) {
                return -3;
            }
            int fights = 0;
            while (can(w, fighter, other) == 0) {
                doFight(w, fighter, other);
                fights++;
                doDays(w, 1);
            }
            return w.fs.get(fighter).fate == 2 ? fights : -2;
        }

        int worth(int owner) {
            if (owner < 0 || owner > 3) {
                return -1;
            }
            int[] prices = new int[fs.size()];
            int many = 0;
            for (int i = 0; i < fs.size(); i++) {
                F f = fs.get(i);
                if (f.owner == owner && f.fate == 0) {
                    many++;
                    prices[i] = spared(f.favour, List.of(), List.of()) ? 20 * f.hire : 50 * f.hire;
                }
            }
            int most = Arrays.stream(prices).max().orElse(0);
            int dearest = -1;
            for (int i = 0; i < prices.length && dearest < 0 && most > 0; i++) {
                dearest = prices[i] == most ? i : -1;
            }
            tell(many, dearest);
            return Arrays.stream(prices).sum();
        }

        int hires(int n) {
            if (n < 0 || n > 99) {
                return -1;
            }
            int bestSet = -1;
            int[] best = {-1, -1, 0};
            for (int set = 255; set >= 0; set--) {
                if (!able().containsAll(members(set))) {
                    continue;
                }
                int hires = 0;
                int favour = 0;
                for (int i : members(set)) {
                    hires += fs.get(i).hire;
                    favour += fs.get(i).favour;
                }
                int many = members(set).size();
                if (hires <= n && (many > best[0] || many == best[0] && favour >= best[1])) {
                    bestSet = set;
                    best = new int[] {many, favour, hires};
                }
            }
            tell(bestSet, best[2]);
            return best[0];
        }

        List<int[]> orders(List<int[]> scores) {
            List<int[]> orders = new ArrayList<>();
            permute(new int[fs.size()], 0, new boolean[fs.size()], scores, orders);
            return orders;
        }

        void permute(int[] yet, int n, boolean[] used, List<int[]> scores, List<int[]> orders) {
            if (n == yet.length) {
                orders.add(yet.clone());
                return;
            }
            for (int i = 0; i < yet.length; i++) {
                boolean can = !used[i];
                for (int[] s : scores) {
                    can &= s[1] != i || used[s[0]];
                }
                if (can) {
                    used[i] = true;
                    yet[n] = i;
                    permute(yet, n + 1, used, scores, orders);
                    used[i] = false;
                }
            }
        }

        boolean told(int above, int below, int deep) {
            for (int[] s : scores) {
                if (s[0] == above && (s[1] == below || deep > 0 && told(s[1], below, deep - 1))) {
                    return true;
                }
            }
            return false;
        }

        int score(int one, int other) {
            if (!is(one) || !is(other) || one == other || scores.size() == 20) {
                return -1;
            }
            if (told(other, one, 8)) {
                return -2;
            }
            scores.add(new int[] {one, other});
            return scores.size();
        }

        int wash() {
            int n = scores.size();
            scores.clear();
            return n;
        }

        int ranks() {
            List<int[]> orders = orders(scores);
            tell(Arrays.stream(orders.get(0)).mapToLong(i -> i).toArray());
            return orders.size();
        }

        int stands(int fighter, int place) {
            if (!is(fighter) || place < 0 || place >= fs.size()) {
                return -1;
            }
            int such = 0;
            List<int[]> orders = orders(scores);
            for (int[] o : orders) {
                such += o[place] == fighter ? 1 : 0;
            }
            tellFraction(BigInteger.valueOf(such), BigInteger.valueOf(orders.size()));
            return such;
        }

        void tellFraction(BigInteger up, BigInteger low) {
            BigInteger g = up.gcd(low);
            tell(up.divide(g).longValueExact(), low.divide(g).longValueExact());
        }

        int places(int fighter) {
            if (!is(fighter)) {
                return -1;
            }
            int high = 9;
            int low = 0;
            for (int[] o : orders(scores)) {
                for (int place = 0; place < o.length; place++) {
                    if (o[place] == fighter) {
                        high = Math.min(high, place);
                        low = Math.max(low, place);
                    }
                }
            }
            return 10 * high + low;
        }

        int watch() {
            List<int[]> orders = orders(scores);
            if (orders.size() == 1) {
                return -2;
            }
            int best = Integer.MAX_VALUE;
            for (int i = 0; i < fs.size(); i++) {
                for (int j = i + 1; j < fs.size(); j++) {
                    int first = 0;
                    for (int[] o : orders) {
                        int k = 0;
                        while (o[k] != i && o[k] != j) {
                            k++;
                        }
                        first += o[k] == i ? 1 : 0;
                    }
                    int left = Math.max(first, orders.size() - first);
                    if (left < best) {
                        best = left;
                        tell(i, j);
                    }
                }
            }
            return best;
        }

        int odds(int n, int k, int p) {
            if (n < 1 || n > 10 || k < 0 || k > 10 || p < 0 || p > 10) {
                return -1;
            }
            tellFraction(BigInteger.valueOf(oddsOf(n, k, p)), BigInteger.TEN.pow(n));
            return 0;
        }

        static long oddsOf(int n, int k, int p) {
            return n == 0 ? k <= 0 ? 1 : 0 : p * oddsOf(n - 1, k - 1, p) + (10 - p) * oddsOf(n - 1, k, p);
        }

        int till(int a, int b, int p) {
            if (a < 1 || a > 6 || b < 1 || b > 6 || p < 0 || p > 10) {
                return -1;
            }
            tellFraction(tillOf(a, b, p, 12), BigInteger.TEN.pow(12));
            return 0;
        }

        static BigInteger tillOf(int a, int b, int p, int left) {
            if (a == 0 || b == 0) {
                return a == 0 ? BigInteger.TEN.pow(left) : BigInteger.ZERO;
            }
            return tillOf(a - 1, b, p, left - 1).multiply(BigInteger.valueOf(p))
                .add(tillOf(a, b - 1, p, left - 1).multiply(BigInteger.valueOf(10 - p)));
        }

        int heard(int what, int v) {
            int[][] ranges = {{0, 3}, {0, 99}, {0, 3}, {1, 9}, {0, 1}};
            if (what < 0 || what > 4 || v < ranges[what][0] || v > ranges[what][1] || heard.size() == 12) {
                return -1;
            }
            heard.add(new int[] {what, v});
            return heard.size();
        }

        int forget() {
            int n = heard.size();
            heard.clear();
            return n;
        }

        List<Integer> fitting() {
            List<Integer> fit = new ArrayList<>();
            for (int i = 0; i < fs.size(); i++) {
                F f = fs.get(i);
                boolean all = true;
                for (int[] h : heard) {
                    boolean[] holds = {f.arms == h[1], f.favour >= h[1], f.owner == h[1], f.hire <= h[1], (f.fate == 1 ? 1 : 0) == h[1]};
                    all &= holds[h[0]];
                }
                if (all) {
                    fit.add(i);
                }
            }
            return fit;
        }

        int fits() {
            tell(fitting().size());
            return bits(fitting());
        }

        int ask() {
            List<Integer> fit = fitting();
            if (fit.isEmpty()) {
                return -2;
            }
            int best = 99;
            int answer = 0;
            for (int v = 9; v >= 1; v--) {
                int cheap = 0;
                for (int i : fit) {
                    cheap += fs.get(i).hire <= v ? 1 : 0;
                }
                int left = Math.max(cheap, fit.size() - cheap);
                if (left <= best) {
                    best = left;
                    answer = v;
                }
            }
            tell(best);
            return answer;
        }

        int rests(int v) {
            if (v < 0 || v > 99) {
                return -1;
            }
            int[][] first = new int[10][10];
            int[][] second = new int[10][10];
            for (int x = 0; x < 10; x++) {
                for (int y = 0; y < 10; y++) {
                    int till = Math.min(x, y);
                    first[x][y] = till + (x < y ? v : x == y ? v / 2 : 0);
                    second[x][y] = till + (y < x ? v : x == y ? v / 2 : 0);
                }
            }
            int many = 0;
            long[] least = {};
            for (int x = 9; x >= 0; x--) {
                for (int y = 9; y >= 0; y--) {
                    boolean rests = true;
                    for (int z = 0; z < 10; z++) {
                        rests &= first[z][y] <= first[x][y] && second[x][z] <= second[x][y];
                    }
                    if (rests) {
                        many++;
                        least = new long[] {x, y};
                    }
                }
            }
            tell(least);
            return many;
        }

        int law() {
            String t = takeText();
            int wrong = t.isEmpty() ? -1 : wrongInRule(t);
            if (wrong >= 0) {
                return -10000 - wrong;
            }
            String other = t.isEmpty() ? STANDARD : t;
            int many = 0;
            long[] least = {};
            for (int i = fs.size() - 1; i >= 0; i--) {
                for (int j = fs.size() - 1; j > i; j--) {
                    if (fs.get(i).fate != 0 || fs.get(j).fate != 0) {
                        continue;
                    }
                    boolean now = strength(world, rule, j, i) > strength(world, rule, i, j);
                    boolean then = strength(world, other, j, i) > strength(world, other, i, j);
                    if (now != then) {
                        many++;
                        least = new long[] {i, j};
                    }
                }
            }
            tell(least);
            return many;
        }

        int years(int seed, int n) {
            if (fs.isEmpty()) {
                return -2;
            }
            if (n < 1 || n > 60) {
                return -1;
            }
            World w = world.copy();
            long r = seed & 0xffffffffL;
            int fought = 0;
            for (int i = 0; i < n; i++) {
                r = (r * 1103515245L + 12345L) & 0xffffffffL;
                int one = (int) (r / 65536 % fs.size());
                r = (r * 1103515245L + 12345L) & 0xffffffffL;
                int other = (int) (r / 65536 % fs.size());
                fought += doFight(w, one, other) < 0 ? 0 : 1;
                if (i % 3 == 2) {
                    doDays(w, 1);
                }
            }
            int dead = 0;
            int freed = 0;
            for (int i = 0; i < fs.size(); i++) {
                dead += w.fs.get(i).fate == 1 && fs.get(i).fate != 1 ? 1 : 0;
                freed += w.fs.get(i).fate == 2 && fs.get(i).fate != 2 ? 1 : 0;
            }
            tell(dead, freed, w.means);
            return fought;
        }

        boolean keep(int i) {
            if (i != 0 && i != 1) {
                return false;
            }
            kept[i] = world.copy();
            return true;
        }

        boolean again(int i) {
            if (i != 0 && i != 1 || kept[i] == null) {
                return false;
            }
            become(kept[i].copy());
            past.clear();
            return true;
        }

        int count(int what) {
            int bits = 0;
            for (int i = 0; i < fs.size(); i++) {
                bits |= fs.get(i).fate == what - 5 ? 1 << i : 0;
            }
            int seen = 0;
            for (int i = 0; i < 4; i++) {
                for (int j = i; j < 4; j++) {
                    seen += world.seen[i][j] || world.seen[j][i] ? 1 : 0;
                }
            }
            switch (what) {
                case 0: return fs.size();
                case 1: return seats.size();
                case 2: return sword;
                case 3: return world.means;
                case 4: return world.day;
                case 5: case 6: case 7: return bits;
                case 8: return seen;
                case 9: return scores.size();
                case 10: return heard.size();
                case 11: return past.size();
                case 12: return row.size();
                case 13: return text.length();
                default: return -1;
            }
        }
    }
}
