import java.util.ArrayDeque;
import java.util.ArrayList;
import java.util.Arrays;
import java.util.Deque;
import java.util.List;
import java.util.NoSuchElementException;
import java.util.Random;
import java.util.TreeSet;
import java.util.regex.Matcher;
import java.util.regex.Pattern;

/** Random runs against a second, slower program written from the document alone. */
public final class ModelTests {
    private static final int RUNS = 1500;

    public static void main(String[] args) {
        int runs = args.length > 0 ? Integer.parseInt(args[0]) : RUNS;
        for (int run = 0; run < runs; run++) {
            String wrong = new Run(run).go();
            if (wrong != null) {
                System.out.println("run " + run + ": " + wrong);
                System.exit(1);
            }
        }
        System.out.println(runs + " runs are as the model has them");
    }

    /** One run: the same calls to both, with what each answers and all that can be asked after it. */
    private static final class Run {
        private final Random random;
        private final LostByState x = new LostByState();
        private final Model m = new Model();
        private final List<String> log = new ArrayList<>();
        private final boolean wild;
        private final boolean busy;

        Run(int seed) {
            random = new Random(seed);
            wild = seed % 7 == 0;
            busy = seed % 2 == 0;
        }

        private int any(int low, int high) {
            int kind = random.nextInt(wild ? 10 : 60);
            if (kind == 0) {
                return new int[] {-1, high + 1, Integer.MIN_VALUE, Integer.MAX_VALUE, low - 1}[random.nextInt(5)];
            }
            return low + random.nextInt(high - low + 1);
        }

        private void put(String s) {
            x.end(0);
            for (int i = 0; i < s.length(); i += 4) {
                int v = 0;
                for (int j = 0; j < 4; j++) {
                    v = v << 8 | (i + j < s.length() ? s.charAt(i + j) : random.nextInt(256));
                }
                x.sign(v);
            }
            x.end(s.length());
            m.text = s;
            log.add("text " + s);
        }

        private String spoilt(String s) {
            if (random.nextInt(4) != 0) {
                return s;
            }
            String signs = "abcdefgh;0123456789mxywdn+-*/<>=()lfcgdz" + (char) 200;
            StringBuilder b = new StringBuilder(s);
            int n = 1 + random.nextInt(2);
            for (int i = 0; i < n; i++) {
                int at = random.nextInt(b.length() + 1);
                char c = signs.charAt(random.nextInt(signs.length()));
                int how = random.nextInt(3);
                if (how == 0) {
                    b.insert(at, c);
                } else if (how == 1 && at < b.length()) {
                    b.setCharAt(at, c);
                } else if (at < b.length()) {
                    b.deleteCharAt(at);
                }
            }
            if (random.nextInt(8) == 0) {
                while (b.length() < 80) {
                    b.append(b.length() % 2 == 0 ? signs.charAt(random.nextInt(signs.length())) : ';');
                }
            }
            return b.length() > 80 ? b.substring(0, 80) : b.toString();
        }

        private String letters(int least) {
            StringBuilder b = new StringBuilder();
            int bar = random.nextInt(4);
            for (char c = 'a'; c <= 'h'; c++) {
                if (random.nextInt(4) < bar) {
                    b.append(c);
                }
            }
            return b.length() < least ? "c" : b.toString();
        }

        private String thingsText() {
            StringBuilder b = new StringBuilder();
            int n = random.nextInt(8) == 0 ? 9 : 1 + random.nextInt(4);
            for (int i = 0; i < n; i++) {
                b.append(i == 0 ? "" : ";").append(1 + random.nextInt(9)).append(letters(0));
            }
            return spoilt(b.length() > 80 ? b.substring(0, 80) : b.toString());
        }

        private String deedsText() {
            StringBuilder b = new StringBuilder();
            int n = random.nextInt(8) == 0 ? 7 : 1 + random.nextInt(3);
            for (int i = 0; i < n; i++) {
                b.append(i == 0 ? "" : ";");
                int bar = 1 + random.nextInt(3);
                int there = b.length();
                for (int t = 0; t < m.marks.size(); t++) {
                    if (random.nextInt(4) < bar) {
                        b.append(t);
                    }
                }
                if (b.length() == there) {
                    b.append('0');
                }
            }
            return spoilt(b.length() > 80 ? b.substring(0, 80) : b.toString());
        }

        private String sharesText() {
            StringBuilder b = new StringBuilder();
            int n = random.nextInt(10) == 0 ? 7 : 1 + random.nextInt(random.nextInt(6) == 0 ? 6 : 4);
            for (int i = 0; i < n; i++) {
                b.append(i == 0 ? "" : ";").append(letters(1));
            }
            return spoilt(b.length() > 80 ? b.substring(0, 80) : b.toString());
        }

        private String expression(int depth) {
            int kind = random.nextInt(depth > 4 ? 3 : 9);
            if (kind == 0) {
                return Integer.toString(random.nextInt(new int[] {4, 10, 100, 1000}[random.nextInt(4)]));
            }
            if (kind < 3) {
                return "mxywdn".substring(random.nextInt(6)).substring(0, 1);
            }
            if (kind == 3) {
                return "(" + expression(depth + 1) + ")";
            }
            if (kind == 4) {
                return "-" + expression(depth + 1);
            }
            String op = "++--**/<>=".substring(random.nextInt(10)).substring(0, 1);
            return expression(depth + 1) + op + expression(depth + 1);
        }

        private String ruleText() {
            String s = expression(random.nextInt(4));
            for (int i = 0; i < 20 && s.length() > 45; i++) {
                s = expression(2);
            }
            s = random.nextInt(20) == 0 ? "" : s;
            return spoilt(s.length() > 80 ? s.substring(0, 80) : s);
        }

        private String yearText() {
            StringBuilder b = new StringBuilder();
            int n = random.nextInt(random.nextInt(4) == 0 ? 30 : 8);
            int many = Math.max(1, m.marks.size());
            for (int i = 0; i < n; i++) {
                int t = random.nextInt(25) == 0 ? random.nextInt(10) : random.nextInt(many);
                switch (random.nextInt(5)) {
                    case 0: b.append('l').append(t).append(random.nextInt(6)); break;
                    case 1: b.append('f').append(random.nextInt(6)).append(t); break;
                    case 2: b.append('c').append(random.nextInt(7)).append(letters(0)); break;
                    case 3: b.append('g').append(t).append(random.nextInt(7)); break;
                    default: b.append('d').append(random.nextInt(10)); break;
                }
            }
            return spoilt(b.length() > 80 ? b.substring(0, 80) : b.toString());
        }

        private String digitsText(int most) {
            StringBuilder b = new StringBuilder();
            int n = random.nextInt(5) == 0 ? random.nextInt(8) : most;
            int top = random.nextInt(8) == 0 ? 1 : random.nextInt(2) == 0 ? 4 : 10;
            for (int i = 0; i < n; i++) {
                b.append(random.nextInt(top));
            }
            return random.nextInt(3) == 0 ? spoilt(b.toString()) : b.toString();
        }

        String go() {
            int calls = 60 + random.nextInt(200);
            for (int i = 0; i < calls; i++) {
                long got;
                long want;
                int kind = i < 3 && !wild ? 2 + i % 2 : random.nextInt(52);
                if (busy && i % 40 == 4) {
                    bringAllIn();
                }
                try {
                    long[] both = call(kind);
                    got = both[0];
                    want = both[1];
                } catch (RuntimeException e) {
                    e.printStackTrace(System.out);
                    return "call " + kind + " threw " + e + "\n" + tail();
                }
                if (got != want) {
                    return "answered " + got + ", due is " + want + "\n" + tail();
                }
                String state = compare();
                if (state != null) {
                    return state + "\n" + tail();
                }
            }
            return null;
        }

        /** Most calls ask about what is in, and chance alone brings little there. */
        private void bringAllIn() {
            for (int t = 0; t < m.marks.size(); t++) {
                if (random.nextInt(6) != 0) {
                    int p = random.nextInt(6);
                    both("loses " + t + " 0", x.loses(t, 0), m.noted("l", t, 0));
                    both("finds " + p + " " + t, x.finds(p, t), m.noted("f", p, t));
                }
            }
        }

        private String tail() {
            return String.join("\n", log);
        }

        private long[] both(String call, long got, long want) {
            log.add(call + " -> " + got);
            return new long[] {got, want};
        }

        private long[] call(int kind) {
            int t = any(0, Math.max(0, m.marks.size() - (random.nextInt(20) == 0 ? 0 : 1)));
            int d = any(0, Math.max(0, m.needs.size() - (random.nextInt(20) == 0 ? 0 : 1)));
            int w = any(0, 6);
            int marks = any(0, 255);
            switch (kind) {
                case 0: {
                    int v = random.nextInt();
                    return both("sign " + v, x.sign(v), m.sign(v));
                }
                case 1: {
                    int n = any(0, 10);
                    return both("end " + n, x.end(n) ? 1 : 0, m.end(n) ? 1 : 0);
                }
                case 2:
                    put(random.nextInt(20) == 0 ? "" : thingsText());
                    return both("things", x.things(), m.things());
                case 3:
                    put(random.nextInt(20) == 0 ? "" : deedsText());
                    return both("deeds", x.deeds(), m.deeds());
                case 4:
                    put(ruleText());
                    return both("rule", x.rule(), m.setRule());
                case 5: {
                    int what = any(0, 1);
                    int v = what == 0 ? any(1, random.nextInt(2) == 0 ? 12 : 99) : any(-99, 99) / (1 + random.nextInt(30));
                    return both("set " + what + " " + v, x.set(what, v), m.set(what, v));
                }
                case 6: {
                    int k = any(0, 3);
                    int n = any(-1, 9);
                    int f = random.nextInt(3) == 0 ? random.nextInt() : random.nextInt(12) - 1;
                    int step = random.nextInt(3) == 0 ? random.nextInt() : random.nextInt(5) - 1;
                    return both("sheet " + k + " " + n + " " + f + " " + step, x.sheet(k, n, f, step), m.sheet(k, n, f, step));
                }
                case 7: case 8: case 9: {
                    int p = any(0, 5);
                    return both("loses " + t + " " + p, x.loses(t, p), m.noted("l", t, p));
                }
                case 10: case 11: case 12: {
                    int p = any(0, 5);
                    return both("finds " + p + " " + t, x.finds(p, t), m.noted("f", p, t));
                }
                case 13: case 14: {
                    int desc = random.nextBoolean() && t >= 0 && t < m.marks.size() ? m.marks.get(t) : marks;
                    return both("claim " + w + " " + desc, x.claim(w, desc), m.noted("c", w, desc));
                }
                case 15:
                    return both("gives " + t + " " + w, x.gives(t, w), m.noted("g", t, w));
                case 16: {
                    int n = any(0, random.nextInt(3) == 0 ? 99 : 6);
                    return both("days " + n, x.days(n), m.days(n));
                }
                case 17:
                    put(yearText());
                    return both("year", x.year(), m.year());
                case 18:
                    return both("undo", x.undo(), m.undo());
                case 19:
                    return both("match " + marks + " " + t, x.match(marks, t), m.match(marks, t));
                case 20:
                    return both("gets " + marks, x.gets(marks), m.gets(marks));
                case 21:
                    return both("fewest " + t, x.fewest(t), m.fewest(t));
                case 22:
                    return both("ways " + t, x.ways(t), m.ways(t));
                case 23:
                    put(random.nextInt(20) == 0 ? "" : sharesText());
                    return both("shares", x.shares(), m.shares());
                case 24:
                    return both("until " + t, x.until(t), m.until(t));
                case 25: {
                    int n = any(0, 99);
                    return both("later " + n, x.later(n), m.later(n));
                }
                default:
                    return more(kind, t, d);
            }
        }

        private long[] more(int kind, int t, int d) {
            switch (kind) {
                case 26:
                    return both("advantage", x.advantage(), m.advantage());
                case 27:
                    return both("soonest", x.soonest(), m.soonest());
                case 28:
                    return both("confused " + t, x.confused(t), m.confused(t));
                case 29:
                    return both("regains " + d, x.regains(d), m.regains(d));
                case 30: case 31: {
                    int mark = any(0, 7);
                    int is = any(0, 1);
                    return both("said " + mark + " " + is, x.said(mark, is), m.say(mark, is));
                }
                case 32:
                    return both("forget", x.forget(), m.forget());
                case 33:
                    return both("fits", x.fits(), m.fits());
                case 34:
                    return both("ask", x.ask(), m.ask());
                case 35:
                    return both("tellsApart", x.tellsApart(), m.tellsApart());
                case 36:
                    return both("alike", x.alike(), m.alike());
                case 37: {
                    int n = any(0, 10);
                    put(digitsText(6));
                    return both("looks " + n, x.looks(n), m.looks(n));
                }
                case 38: {
                    int a = any(0, 5);
                    int b = any(0, 5);
                    int n = any(0, 20);
                    return both("strays " + a + " " + b + " " + n, x.strays(a, b, n), m.strays(a, b, n));
                }
                case 39:
                    return both("can", x.can(), m.can());
                case 40: {
                    int k = any(0, 8);
                    return both("with " + k, x.with(k), m.with(k));
                }
                case 41:
                    return both("weakest", x.weakest(), m.weakest());
                case 42:
                    return both("worth " + t, x.worth(t), m.worthOf(t));
                case 43:
                    return both("hangs " + d, x.hangs(d), m.hangs(d));
                case 44: {
                    int k = any(0, 6);
                    int p = any(0, 10);
                    return both("likely " + k + " " + p, x.likely(k, p), m.likely(k, p));
                }
                case 45:
                    put(digitsText(1 + random.nextInt(6)));
                    return both("hatch", x.hatch(), m.hatch());
                case 46: {
                    int v = any(0, 20);
                    int c = any(0, 5);
                    return both("rests " + v + " " + c, x.rests(v, c), m.rests(v, c));
                }
                case 47:
                    put(ruleText());
                    return both("law", x.law(), m.law());
                case 48: {
                    int seed = random.nextInt();
                    int n = any(1, 60);
                    return both("years " + seed + " " + n, x.years(seed, n), m.years(seed, n));
                }
                case 49: {
                    int i = any(0, 1);
                    return both("keep " + i, x.keep(i) ? 1 : 0, m.keep(i) ? 1 : 0);
                }
                case 50: {
                    int i = any(0, 1);
                    return both("again " + i, x.again(i) ? 1 : 0, m.again(i) ? 1 : 0);
                }
                default:
                    return both("count -1", x.count(-1), -1);
            }
        }

        private String compare() {
            for (int what = 0; what < 14; what++) {
                if (x.count(what) != m.count(what)) {
                    return "count(" + what + ") answered " + x.count(what) + ", due is " + m.count(what);
                }
            }
            for (int i = -1; i <= m.row.size(); i++) {
                Long want = i >= 0 && i < m.row.size() ? m.row.get(i) : null;
                Long got = null;
                try {
                    got = x.row(i);
                } catch (NoSuchElementException e) {
                    got = null;
                }
                if (got == null ? want != null : !got.equals(want)) {
                    return "row(" + i + ") answered " + got + ", due is " + want;
                }
            }
            for (int t = -1; t < 9; t++) {
                for (int what = -1; what < 8; what++) {
                    Integer want = m.thing(t, what);
                    Integer got = null;
                    try {
                        got = x.thing(t, what);
                    } catch (NoSuchElementException e) {
                        got = null;
                    }
                    if (got == null ? want != null : !got.equals(want)) {
                        return "thing(" + t + ", " + what + ") answered " + got + ", due is " + want;
                    }
                }
            }
            for (int d = -1; d < 7; d++) {
                for (int what = -1; what < 4; what++) {
                    Integer want = m.deed(d, what);
                    Integer got = null;
                    try {
                        got = x.deed(d, what);
                    } catch (NoSuchElementException e) {
                        got = null;
                    }
                    if (got == null ? want != null : !got.equals(want)) {
                        return "deed(" + d + ", " + what + ") answered " + got + ", due is " + want;
                    }
                }
            }
            return null;
        }
    }

    /** Where one thing is: "had 3", "lost 2", or "in days finder". */
    private static final class Spot {
        final String how;
        final int a;
        final int b;

        Spot(String how, int a, int b) {
            this.how = how;
            this.a = a;
            this.b = b;
        }

        boolean is(String what) {
            return how.equals(what);
        }
    }

    /** All that undo() brings back; never changed once made. */
    private static final class World {
        final List<Spot> spots;
        final int day;
        final int paid;

        World(List<Spot> spots, int day, int paid) {
            this.spots = List.copyOf(spots);
            this.day = day;
            this.paid = paid;
        }

        World with(int t, Spot spot) {
            List<Spot> s = new ArrayList<>(spots);
            s.set(t, spot);
            return new World(s, day, paid);
        }

        int bits(String how, int a) {
            int bits = 0;
            for (int t = 0; t < spots.size(); t++) {
                if (spots.get(t).is(how) && (a < 0 || spots.get(t).a == a)) {
                    bits |= 1 << t;
                }
            }
            return bits;
        }
    }

    /** The document once more, plainly. */
    private static final class Model {
        String text = "";
        final List<Integer> marks = new ArrayList<>();
        final List<Integer> worth = new ArrayList<>();
        final List<Integer> needs = new ArrayList<>();
        List<Long> row = new ArrayList<>();
        World now = new World(new ArrayList<>(), 0, 0);
        final Deque<World> past = new ArrayDeque<>();
        final World[] kept = new World[2];
        final List<int[]> saids = new ArrayList<>();
        String rule = "m*2-x*3-y";
        int term = 30;
        int need = 3;

        private void tell(long... numbers) {
            row = new ArrayList<>();
            for (long n : numbers) {
                row.add(n);
            }
        }

        private String taken() {
            String s = text;
            text = "";
            return s;
        }

        private static int bits(String letters, char low) {
            int bits = 0;
            for (char c : letters.toCharArray()) {
                bits |= 1 << (c - low);
            }
            return bits;
        }

        long sign(int v) {
            if (text.length() > 76) {
                return -1;
            }
            for (int i = 3; i >= 0; i--) {
                text += (char) (v >> 8 * i & 255);
            }
            return text.length();
        }

        boolean end(int n) {
            if (n < 0 || n > text.length()) {
                return false;
            }
            text = text.substring(0, n);
            return true;
        }

        /** A text is right if it matches; if not, the first sign with which it can't be the beginning of a right one. */
        private static int wrongAt(String s, Pattern right, int limit) {
            if (s.length() <= limit && right.matcher(s).matches()) {
                return -1;
            }
            for (int n = 1; n <= Math.min(limit, s.length()); n++) {
                Matcher m = right.matcher(s.substring(0, n));
                if (!m.matches() && !m.hitEnd()) {
                    return n - 1;
                }
            }
            return Math.min(limit, s.length());
        }

        /** Lines with ; between, so many at most; a ; may be begun behind the last one, but nothing comes then. */
        private static Pattern lines(String line, int most) {
            // (?!) stands for the line there is no room for
            if (most == 0) {
                return Pattern.compile("(?!)");
            }
            return Pattern.compile(line + "(;" + line + "){0," + (most - 1) + "}");
        }

        private static int wrongLine(String s, String line, int most, int limit) {
            int p = wrongAt(s, lines(line, most), limit);
            boolean semicolonStands = most > 0 && p >= 0 && p < Math.min(limit, s.length()) && s.charAt(p) == ';'
                && lines(line, most).matcher(s.substring(0, p)).matches();
            return semicolonStands ? p + 1 : p;
        }

        private static final String LETTERS = "a?b?c?d?e?f?g?h?";

        private static final String SOME = "(a?b?c?d?e?f?g?h|a?b?c?d?e?f?g|a?b?c?d?e?f|a?b?c?d?e|a?b?c?d|a?b?c|a?b|a)";

        long things() {
            String s = taken();
            if (s.isEmpty()) {
                return 0;
            }
            int p = wrongLine(s, "[1-9]" + LETTERS, 8 - marks.size(), 79);
            if (p >= 0) {
                return -1 - p;
            }
            String[] lines = s.split(";");
            List<Spot> spots = new ArrayList<>(now.spots);
            for (String line : lines) {
                worth.add(line.charAt(0) - '0');
                marks.add(bits(line.substring(1), 'a'));
                spots.add(new Spot("had", 6, 0));
            }
            now = new World(spots, now.day, now.paid);
            past.clear();
            Arrays.fill(kept, null);
            return lines.length;
        }

        long deeds() {
            String s = taken();
            if (s.isEmpty()) {
                return 0;
            }
            int n = marks.size();
            String line = "(?!)";
            for (int last = 0; last < n; last++) {
                StringBuilder b = new StringBuilder();
                for (int t = 0; t < last; t++) {
                    b.append(t).append('?');
                }
                line = (last == 0 ? "" : line + "|") + b + last;
            }
            int p = wrongLine(s, "(" + line + ")", n == 0 ? 0 : 6 - needs.size(), 53);
            if (p >= 0) {
                return -1 - p;
            }
            String[] lines = s.split(";");
            for (String l : lines) {
                needs.add(bits(l, '0'));
            }
            past.clear();
            Arrays.fill(kept, null);
            return lines.length;
        }

        /** The first wrong sign of a rule, by what may follow what; -1 if all is right. */
        private static int wrongInRule(String all) {
            String s = all.substring(0, Math.min(40, all.length()));
            boolean wantsThing = true;
            int digits = 0;
            Deque<Boolean> compared = new ArrayDeque<>();
            boolean here = false;
            for (int p = 0; p < s.length(); p++) {
                char c = s.charAt(p);
                boolean digit = c >= '0' && c <= '9';
                if (wantsThing) {
                    if (c == '(') {
                        if (compared.size() == 4) {
                            return p;
                        }
                        compared.push(here);
                        here = false;
                    } else if (digit || "mxywdn".indexOf(c) >= 0) {
                        wantsThing = false;
                        digits = digit ? 1 : 9;
                    } else if (c != '-') {
                        return p;
                    }
                } else if (digit) {
                    digits++;
                    if (digits > 3) {
                        return p;
                    }
                } else if (c == ')') {
                    if (compared.isEmpty()) {
                        return p;
                    }
                    here = compared.pop();
                    digits = 9;
                } else if ("+-*/".indexOf(c) >= 0) {
                    wantsThing = true;
                } else if ("<>=".indexOf(c) >= 0 && !here) {
                    here = true;
                    wantsThing = true;
                } else {
                    return p;
                }
            }
            return wantsThing || !compared.isEmpty() || all.length() > 40 ? s.length() : -1;
        }

        long setRule() {
            String s = taken();
            int p = s.isEmpty() ? -1 : wrongInRule(s);
            if (p >= 0) {
                return -1 - p;
            }
            rule = s.isEmpty() ? "m*2-x*3-y" : s;
            return 0;
        }

        /** The value of a right rule: it is parted at the sign that binds least. */
        private static int value(String s, int[] names) {
            int depth = 0;
            int compare = -1;
            int sum = -1;
            int product = -1;
            for (int i = 0; i < s.length(); i++) {
                char c = s.charAt(i);
                depth += c == '(' ? 1 : c == ')' ? -1 : 0;
                boolean behindThing = i > 0 && "mxywdn0123456789)".indexOf(s.charAt(i - 1)) >= 0;
                if (depth != 0 || !behindThing) {
                    continue;
                }
                if ("<>=".indexOf(c) >= 0) {
                    compare = i;
                } else if ("+-".indexOf(c) >= 0) {
                    sum = i;
                } else if ("*/".indexOf(c) >= 0) {
                    product = i;
                }
            }
            int at = compare >= 0 ? compare : sum >= 0 ? sum : product;
            if (at >= 0) {
                int a = value(s.substring(0, at), names);
                int b = value(s.substring(at + 1), names);
                switch (s.charAt(at)) {
                    case '<': return a < b ? 1 : 0;
                    case '>': return a > b ? 1 : 0;
                    case '=': return a == b ? 1 : 0;
                    case '+': return a + b;
                    case '-': return a - b;
                    case '*': return a * b;
                    default: return b == 0 ? 0 : a / b;
                }
            }
            if (s.charAt(0) == '-') {
                return -value(s.substring(1), names);
            }
            if (s.charAt(0) == '(') {
                return value(s.substring(1, s.length() - 1), names);
            }
            int name = "mxywdn".indexOf(s.charAt(0));
            return name >= 0 ? names[name] : Integer.parseInt(s);
        }

        private int matchBy(String by, int described, int t, World at) {
            int has = marks.get(t);
            Spot spot = at.spots.get(t);
            int[] names = {0, 0, 0, worth.get(t), spot.is("in") ? spot.a : 0, at.day % 7};
            for (int b = 0; b < 8; b++) {
                boolean told = (described >> b & 1) == 1;
                boolean there = (has >> b & 1) == 1;
                names[0] += told && there ? 1 : 0;
                names[1] += told && !there ? 1 : 0;
                names[2] += !told && there ? 1 : 0;
            }
            return value(by, names);
        }

        private int best(String by, int described, World at) {
            int best = -1;
            long most = Long.MIN_VALUE;
            for (int t = 0; t < marks.size(); t++) {
                if (at.spots.get(t).is("in") && matchBy(by, described, t, at) > most) {
                    best = t;
                    most = matchBy(by, described, t, at);
                }
            }
            return most >= need ? best : -1;
        }

        private static long clamp(long v) {
            return v < -999 ? -999 : v > 999 ? 999 : v;
        }

        Integer thing(int t, int what) {
            if (!isThing(t)) {
                return null;
            }
            Spot s = now.spots.get(t);
            switch (what) {
                case 0: return marks.get(t);
                case 1: return worth.get(t);
                case 2: return s.is("had") ? s.a : -1;
                case 3: return s.is("lost") ? s.a : -1;
                case 4: return s.is("in") ? s.a : -1;
                case 5: return s.is("in") ? s.b : -1;
                case 6: return needing(t);
                default: return null;
            }
        }

        private int needing(int t) {
            int bits = 0;
            for (int d = 0; d < needs.size(); d++) {
                if ((needs.get(d) & 1 << t) != 0) {
                    bits |= 1 << d;
                }
            }
            return bits;
        }

        private int state() {
            return now.bits("had", 6);
        }

        Integer deed(int d, int what) {
            if (!isDeed(d)) {
                return null;
            }
            int lacks = needs.get(d) - (needs.get(d) & state());
            switch (what) {
                case 0: return needs.get(d);
                case 1: return lacks;
                case 2: return lacks == 0 ? 1 : 0;
                default: return null;
            }
        }

        private boolean isThing(int t) {
            return t >= 0 && t < marks.size();
        }

        private boolean isDeed(int d) {
            return d >= 0 && d < needs.size();
        }

        long set(int what, int v) {
            if (what == 0 && v >= 1 && v <= 99) {
                int was = term;
                term = v;
                return 100 + was;
            }
            if (what == 1 && v >= -99 && v <= 99) {
                int was = need;
                need = v;
                return 100 + was;
            }
            return -1;
        }

        long sheet(int kind, int n, int f, int step) {
            if (kind < 0 || kind > 3 || n > 8) {
                return -1;
            }
            if (kind == 3) {
                for (int t = 0; t < worth.size(); t++) {
                    worth.set(t, 1);
                }
                return -3;
            }
            if (n < 0) {
                return -2;
            }
            List<Integer> entries = new ArrayList<>();
            int v = f;
            for (int i = 0; i < n; i++) {
                int entry = kind == 0 ? (v << 24 >> 24) : kind == 1 ? (v << 16 >> 16) : v;
                entries.add(Math.min(9, Math.max(1, entry)));
                v += step;
            }
            long sum = 0;
            for (int t = 0; t < worth.size(); t++) {
                worth.set(t, t < entries.size() ? entries.get(t) : 1);
                sum += worth.get(t);
            }
            return sum;
        }

        /** An act on a world: what it answers, and the world then. */
        private long did;

        private World act(World w, String kind, int a, int b) {
            did = -1;
            switch (kind) {
                case "l":
                    if (!isThing(a) || b < 0 || b > 5) {
                        return w;
                    }
                    if (!w.spots.get(a).is("had")) {
                        did = -2;
                        return w;
                    }
                    w = w.with(a, new Spot("lost", b, 0));
                    did = Integer.bitCount(w.bits("lost", -1));
                    return w;
                case "f":
                    if (!isThing(b) || a < 0 || a > 5) {
                        return w;
                    }
                    if (!w.spots.get(b).is("lost")) {
                        did = -2;
                        return w;
                    }
                    w = w.with(b, new Spot("in", 0, a));
                    did = Integer.bitCount(w.bits("in", -1));
                    return w;
                case "g":
                    if (!isThing(a) || b < 0 || b > 6) {
                        return w;
                    }
                    if (!w.spots.get(a).is("had") || w.spots.get(a).a == b) {
                        did = -2;
                        return w;
                    }
                    did = w.spots.get(a).a;
                    return w.with(a, new Spot("had", b, 0));
                case "c":
                    if (a < 0 || a > 6 || b < 0 || b > 255) {
                        return w;
                    }
                    did = best(rule, b, w);
                    if (did < 0) {
                        did = -2;
                        return w;
                    }
                    w = w.with((int) did, new Spot("had", a, 0));
                    return new World(w.spots, w.day, Math.min(9999, w.paid + worth.get((int) did)));
                default:
                    if (a < 0 || a > 99) {
                        return w;
                    }
                    int before = w.bits("in", -1);
                    for (int i = 0; i < a; i++) {
                        w = dayOn(w);
                    }
                    did = Integer.bitCount(before - w.bits("in", -1));
                    return w;
            }
        }

        private World dayOn(World w) {
            World to = new World(w.spots, w.day + 1, w.paid);
            for (int t = 0; t < marks.size(); t++) {
                Spot s = w.spots.get(t);
                if (s.is("in")) {
                    int days = Math.min(99, s.a + 1);
                    to = to.with(t, days >= term ? new Spot("had", s.b, 0) : new Spot("in", days, s.b));
                }
            }
            return to;
        }

        private void remember(World before) {
            past.addLast(before);
            if (past.size() > 12) {
                past.removeFirst();
            }
        }

        long noted(String kind, int a, int b) {
            World before = now;
            now = act(now, kind, a, b);
            if (did >= 0) {
                remember(before);
            }
            return did;
        }

        private int doable(int have) {
            int bits = 0;
            for (int d = 0; d < needs.size(); d++) {
                bits |= (needs.get(d) | have) == have ? 1 << d : 0;
            }
            return bits;
        }

        long days(int n) {
            World before = now;
            now = act(now, "d", n, 0);
            if (did < 0) {
                return -1;
            }
            if (n > 0) {
                remember(before);
            }
            tell(before.bits("in", -1) - now.bits("in", -1), doable(state()));
            return did;
        }

        private static int actEnd(String s, int from) {
            char kind = s.charAt(from);
            int p = from + (kind == 'c' || kind == 'd' ? 2 : 3);
            if (kind == 'c') {
                char last = 'a' - 1;
                while (p < s.length() && s.charAt(p) > last && s.charAt(p) <= 'h') {
                    last = s.charAt(p);
                    p++;
                }
            }
            return p;
        }

        /** Signs are tried one by one: a prefix is fine if some end of at most two digits makes acts of it. */
        private static int wrongInYear(String s) {
            int most = Math.min(60, s.length());
            for (int n = 1; n <= most; n++) {
                String head = s.substring(0, n);
                if (!isYear(head) && !isYear(head + "0") && !isYear(head + "00")) {
                    return n - 1;
                }
            }
            return isYear(s.substring(0, most)) && s.length() <= 60 ? -1 : most;
        }

        private static boolean isYear(String s) {
            int p = 0;
            while (p < s.length()) {
                char kind = s.charAt(p);
                int digits = kind == 'l' || kind == 'f' || kind == 'g' ? 2 : kind == 'c' || kind == 'd' ? 1 : 0;
                if (digits == 0 || p + digits >= s.length()) {
                    return false;
                }
                for (int i = 1; i <= digits; i++) {
                    if (s.charAt(p + i) < '0' || s.charAt(p + i) > '9') {
                        return false;
                    }
                }
                p = actEnd(s, p);
            }
            return true;
        }

        long year() {
            String s = taken();
            int p = wrongInYear(s);
            if (p >= 0) {
                return -1 - p;
            }
            World before = now;
            long done = 0;
            boolean stuck = false;
            int at = 0;
            while (at < s.length() && !stuck) {
                int next = actEnd(s, at);
                char kind = s.charAt(at);
                int a = s.charAt(at + 1) - '0';
                int b = kind == 'c' ? bits(s.substring(at + 2, next), 'a') : kind == 'd' ? 0 : s.charAt(at + 2) - '0';
                now = act(now, String.valueOf(kind), a, b);
                if (did < 0) {
                    stuck = true;
                } else {
                    done++;
                }
                at = next;
            }
            if (done > 0) {
                remember(before);
            }
            tell(stuck ? 1 : 0, doable(state()));
            return done;
        }

        long undo() {
            if (past.isEmpty()) {
                return -1;
            }
            now = past.removeLast();
            return past.size();
        }

        long match(int described, int t) {
            if (described < 0 || described > 255 || !isThing(t)) {
                return -1;
            }
            return 1000 + clamp(matchBy(rule, described, t, now));
        }

        long gets(int described) {
            if (described < 0 || described > 255) {
                return -1;
            }
            int best = best(rule, described, now);
            if (best < 0) {
                return -2;
            }
            int enough = 0;
            for (int t = 0; t < marks.size(); t++) {
                if (now.spots.get(t).is("in") && matchBy(rule, described, t, now) >= need) {
                    enough++;
                }
            }
            tell(match(described, best), enough);
            return best;
        }

        private int[] allBest(String by) {
            int[] all = new int[256];
            for (int i = 0; i < 256; i++) {
                all[i] = now.bits("in", -1) == 0 ? -1 : best(by, i, now);
            }
            return all;
        }

        private static int fewestOf(List<Integer> sets) {
            int best = -1;
            for (int bits = 0; bits <= 8 && best < 0; bits++) {
                for (int s : new TreeSet<>(sets)) {
                    if (Integer.bitCount(s) == bits && best < 0) {
                        best = s;
                    }
                }
            }
            return best;
        }

        long fewest(int t) {
            if (!isThing(t)) {
                return -1;
            }
            int[] all = allBest(rule);
            List<Integer> by = new ArrayList<>();
            for (int i = 0; i < 256; i++) {
                if (all[i] == t) {
                    by.add(i);
                }
            }
            if (by.isEmpty()) {
                return -2;
            }
            int best = fewestOf(by);
            tell(best);
            return Integer.bitCount(best);
        }

        private static int howMany(int[] all, int v) {
            return (int) Arrays.stream(all).filter(i -> i == v).count();
        }

        long ways(int t) {
            if (!isThing(t)) {
                return -1;
            }
            int[] all = allBest(rule);
            tell(howMany(all, -1));
            return howMany(all, t);
        }

        private long[][] gains;
        private long mostShared;
        private int[] bestShares;

        private void share(int i, int used, long sum, int[] chosen) {
            if (i == gains.length) {
                // rows come in rising order, so the first one of the best is the least
                if (bestShares == null || sum > mostShared) {
                    mostShared = sum;
                    bestShares = chosen.clone();
                }
                return;
            }
            for (int t = -1; t < marks.size(); t++) {
                if (t < 0 || now.spots.get(t).is("in") && (used >> t & 1) == 0) {
                    chosen[i] = t;
                    share(i + 1, t < 0 ? used : used | 1 << t, t < 0 ? sum : sum + gains[i][t], chosen);
                }
            }
        }

        long shares() {
            String s = taken();
            int p = s.isEmpty() ? -1 : wrongLine(s, SOME, 6, 80);
            if (p >= 0) {
                return -1 - p;
            }
            String[] lines = s.isEmpty() ? new String[0] : s.split(";");
            gains = new long[lines.length][marks.size()];
            for (int i = 0; i < lines.length; i++) {
                for (int t = 0; t < marks.size(); t++) {
                    gains[i][t] = clamp(matchBy(rule, bits(lines[i], 'a'), t, now));
                }
            }
            mostShared = 0;
            bestShares = null;
            share(0, 0, 0, new int[lines.length]);
            row = new ArrayList<>();
            for (int t : bestShares) {
                row.add((long) t);
            }
            return mostShared;
        }

        private int goesIn(int t) {
            World w = now;
            int n = 0;
            while (w.spots.get(t).is("in")) {
                w = dayOn(w);
                n++;
            }
            return n;
        }

        long until(int t) {
            if (!isThing(t)) {
                return -1;
            }
            return now.spots.get(t).is("in") ? goesIn(t) : -2;
        }

        long later(int n) {
            if (n < 0 || n > 99) {
                return -1;
            }
            World w = now;
            for (int i = 0; i < n; i++) {
                w = dayOn(w);
            }
            int people = 0;
            for (Spot s : w.spots) {
                people |= s.is("had") && s.a < 6 ? 1 << s.a : 0;
            }
            tell(w.bits("had", 6), people);
            return w.bits("in", -1);
        }

        private int worthIn(int things) {
            int sum = 0;
            for (int t = 0; t < worth.size(); t++) {
                sum += (things >> t & 1) * worth.get(t);
            }
            return sum;
        }

        long advantage() {
            int best = 0;
            for (int p = 5; p >= 0; p--) {
                if (worthIn(now.bits("had", p)) >= worthIn(now.bits("had", best))) {
                    best = p;
                }
            }
            tell(worthIn(now.bits("had", best)), now.bits("had", best));
            return best;
        }

        long soonest() {
            int best = -1;
            for (int t = marks.size() - 1; t >= 0; t--) {
                if (now.spots.get(t).is("in") && (best < 0 || goesIn(t) <= goesIn(best))) {
                    best = t;
                }
            }
            if (best < 0) {
                return -2;
            }
            tell(goesIn(best), now.spots.get(best).b);
            return best;
        }

        long confused(int t) {
            if (!isThing(t)) {
                return -1;
            }
            int best = -1;
            for (int o = marks.size() - 1; o >= 0; o--) {
                if (o != t && now.spots.get(o).is("in")
                    && (best < 0 || matchBy(rule, marks.get(t), o, now) >= matchBy(rule, marks.get(t), best, now))) {
                    best = o;
                }
            }
            if (best < 0) {
                return -2;
            }
            tell(match(marks.get(t), best), match(marks.get(t), t));
            return best;
        }

        long regains(int d) {
            if (!isDeed(d)) {
                return -1;
            }
            int n = needs.get(d);
            int people = 0;
            for (int p = 0; p < 6; p++) {
                people |= now.bits("had", p);
            }
            tell(n & now.bits("lost", -1), n & people, worthIn(n & ~state()));
            return n & now.bits("in", -1);
        }

        long say(int mark, int is) {
            if (mark < 0 || mark > 7 || is < 0 || is > 1 || saids.size() == 12) {
                return -1;
            }
            saids.add(new int[] {mark, is});
            return saids.size();
        }

        long forget() {
            int n = saids.size();
            saids.clear();
            return n;
        }

        private List<Integer> fitting() {
            List<Integer> list = new ArrayList<>();
            for (int t = 0; t < marks.size(); t++) {
                boolean fits = true;
                for (int[] said : saids) {
                    fits &= (marks.get(t) >> said[0] & 1) == said[1];
                }
                if (fits) {
                    list.add(t);
                }
            }
            return list;
        }

        long fits() {
            int bits = 0;
            int common = 255;
            for (int t : fitting()) {
                bits |= 1 << t;
                common &= marks.get(t);
            }
            tell(fitting().size(), common);
            return bits;
        }

        long ask() {
            if (fitting().isEmpty()) {
                return -2;
            }
            int best = -1;
            int least = 99;
            for (int mark = 0; mark < 8; mark++) {
                int has = 0;
                int not = 0;
                for (int t : fitting()) {
                    if ((marks.get(t) >> mark & 1) == 1) {
                        has++;
                    } else {
                        not++;
                    }
                }
                if (Math.max(has, not) < least) {
                    least = Math.max(has, not);
                    best = mark;
                }
            }
            tell(least);
            return best;
        }

        long tellsApart() {
            List<Integer> good = new ArrayList<>();
            for (int asked = 0; asked < 256; asked++) {
                TreeSet<Integer> seen = new TreeSet<>();
                for (int has : marks) {
                    seen.add(has & asked);
                }
                if (seen.size() == marks.size()) {
                    good.add(asked);
                }
            }
            if (good.isEmpty()) {
                return -2;
            }
            tell(fewestOf(good));
            return Integer.bitCount(fewestOf(good));
        }

        long alike() {
            if (marks.size() < 2) {
                return -2;
            }
            for (int differ = 0; ; differ++) {
                for (int a = 0; a < marks.size(); a++) {
                    for (int b = a + 1; b < marks.size(); b++) {
                        if (Integer.bitCount(marks.get(a) ^ marks.get(b)) == differ) {
                            tell(a, b, marks.get(a) & marks.get(b));
                            return differ;
                        }
                    }
                }
            }
        }

        private void tellFraction(long upper, long lower, long... then) {
            long g = lower;
            while (upper % g != 0 || lower % g != 0) {
                g = g > upper && upper > 0 ? Math.min(g - 1, upper) : g - 1;
            }
            tell(upper / g, lower / g);
            for (long n : then) {
                row.add(n);
            }
        }

        long looks(int n) {
            String s = taken();
            if (n < 0 || n > 10) {
                return -200;
            }
            int p = wrongAt(s, Pattern.compile("[0-9]{6}"), 80);
            if (p >= 0) {
                return -1 - p;
            }
            if (s.equals("000000")) {
                return -100;
            }
            double[] left = new double[6];
            double all = 0;
            for (int i = 0; i < 6; i++) {
                left[i] = s.charAt(i) - '0';
                all += left[i];
            }
            long[] places = new long[n];
            double found = 0;
            for (int i = 0; i < n; i++) {
                int best = 0;
                for (int q = 1; q < 6; q++) {
                    best = left[q] > left[best] ? q : best;
                }
                left[best] /= 2;
                found += left[best];
                places[i] = best;
            }
            // halves of small whole numbers are told by doubles without a rest
            tellFraction((long) (found * 1024), (long) (all * 1024), places);
            return 0;
        }

        private static long walks(int a, int b, int n) {
            if (n == 0) {
                return a == b ? 1 : 0;
            }
            return walks((a + 1) % 6, b, n - 1) + walks((a + 5) % 6, b, n - 1);
        }

        long strays(int a, int b, int n) {
            if (a < 0 || a > 5 || b < 0 || b > 5 || n < 0 || n > 20) {
                return -1;
            }
            long upper = walks(a, b, n);
            long lower = 1L << n;
            while (upper % 2 == 0 && lower > 1) {
                upper /= 2;
                lower /= 2;
            }
            tell(upper, lower);
            return 0;
        }

        long can() {
            int wanted = 0;
            for (int n : needs) {
                wanted |= n;
            }
            tell(Integer.bitCount(doable(state())), wanted & ~state());
            return doable(state());
        }

        long with(int k) {
            if (k < 0 || k > 8) {
                return -1;
            }
            int most = -1;
            List<Integer> sets = new ArrayList<>();
            for (int more = 0; more < 1 << marks.size(); more++) {
                if (Integer.bitCount(more) <= k && (more & state()) == 0) {
                    int many = Integer.bitCount(doable(state() | more));
                    if (many > most) {
                        sets.clear();
                        most = many;
                    }
                    if (many == most) {
                        sets.add(more);
                    }
                }
            }
            tell(fewestOf(sets));
            return most;
        }

        long weakest() {
            int best = -1;
            int gone = 0;
            for (int t = 0; t < marks.size(); t++) {
                if ((state() >> t & 1) == 1) {
                    int hit = doable(state()) & ~doable(state() & ~(1 << t));
                    if (best < 0 || Integer.bitCount(hit) > Integer.bitCount(gone)) {
                        best = t;
                        gone = hit;
                    }
                }
            }
            if (best < 0) {
                return -2;
            }
            tell(gone);
            return best;
        }

        long worthOf(int t) {
            if (!isThing(t)) {
                return -1;
            }
            long upper = 0;
            long lower = 1;
            for (int n : needs) {
                if ((n >> t & 1) == 1) {
                    int by = Integer.bitCount(n);
                    upper = upper * by + lower;
                    lower = lower * by;
                }
            }
            tellFraction(upper, lower);
            return 0;
        }

        private void reach(int d, TreeSet<Integer> seen) {
            if (seen.add(d)) {
                for (int e = 0; e < needs.size(); e++) {
                    if ((needs.get(d) & needs.get(e)) != 0) {
                        reach(e, seen);
                    }
                }
            }
        }

        long hangs(int d) {
            if (!isDeed(d)) {
                return -1;
            }
            TreeSet<Integer> seen = new TreeSet<>();
            reach(d, seen);
            int bits = 0;
            int all = 0;
            for (int e : seen) {
                bits |= 1 << e;
                all |= needs.get(e);
            }
            tell(all);
            return bits;
        }

        private long chance(int t, int have, int k, int p) {
            if (t == marks.size()) {
                return Integer.bitCount(doable(have)) >= k ? 1 : 0;
            }
            if ((state() >> t & 1) == 0) {
                return chance(t + 1, have, k, p);
            }
            return p * chance(t + 1, have & ~(1 << t), k, p) + (10 - p) * chance(t + 1, have, k, p);
        }

        long likely(int k, int p) {
            if (k < 0 || k > 6 || p < 0 || p > 10) {
                return -1;
            }
            long upper = chance(0, state(), k, p);
            long lower = 1;
            for (int i = 0; i < Integer.bitCount(state()); i++) {
                lower *= 10;
            }
            for (int by : new int[] {2, 5}) {
                while (upper % by == 0 && lower % by == 0) {
                    upper /= by;
                    lower /= by;
                }
            }
            tell(upper, lower);
            return 0;
        }

        private final java.util.Map<String, Boolean> won = new java.util.HashMap<>();

        private boolean wins(String bays) {
            char[] sorted = bays.replace("0", "").toCharArray();
            Arrays.sort(sorted);
            String s = new String(sorted);
            Boolean known = won.get(s);
            if (known != null) {
                return known;
            }
            boolean wins = winningMove(s) != null;
            won.put(s, wins);
            return wins;
        }

        private long[] winningMove(String bays) {
            for (int bay = 0; bay < bays.length(); bay++) {
                int lie = bays.charAt(bay) - '0';
                for (int take = 1; take <= lie; take++) {
                    String left = bays.substring(0, bay) + (lie - take) + bays.substring(bay + 1);
                    if (!wins(left)) {
                        return new long[] {bay, take};
                    }
                }
            }
            return null;
        }

        long hatch() {
            String s = taken();
            int p = wrongAt(s, Pattern.compile("[0-9]{1,6}"), 80);
            if (p >= 0) {
                return -1 - p;
            }
            long[] move = winningMove(s);
            if (move == null) {
                tell();
                return 0;
            }
            tell(move);
            return 1;
        }

        private static int has(int mine, int his, int v, int c) {
            int reward = v - (mine + his) / 2;
            reward = reward < 0 ? 0 : reward;
            return reward - c * mine + (mine > his ? 3 : 0);
        }

        long rests(int v, int c) {
            if (v < 0 || v > 20 || c < 0 || c > 5) {
                return -1;
            }
            List<int[]> pairs = new ArrayList<>();
            for (int x = 0; x < 10; x++) {
                for (int y = 0; y < 10; y++) {
                    boolean rest = true;
                    for (int z = 0; z < 10; z++) {
                        rest &= has(z, y, v, c) <= has(x, y, v, c) && has(z, x, v, c) <= has(y, x, v, c);
                    }
                    if (rest) {
                        pairs.add(new int[] {x, y});
                    }
                }
            }
            if (pairs.isEmpty()) {
                tell();
            } else {
                tell(pairs.get(0)[0], pairs.get(0)[1]);
            }
            return pairs.size();
        }

        long law() {
            String s = taken();
            int p = s.isEmpty() ? -1 : wrongInRule(s);
            if (p >= 0) {
                return -10000 - p;
            }
            int it = 256 - howMany(allBest(s.isEmpty() ? "m*2-x*3-y" : s), -1);
            int this_ = 256 - howMany(allBest(rule), -1);
            tell(it, this_);
            return it - this_;
        }

        private int drawn;

        private int draw(int n) {
            drawn = drawn * 1103515245 + 12345;
            return (int) (Integer.toUnsignedLong(drawn) / 65536 % n);
        }

        long years(int seed, int n) {
            if (n < 1 || n > 60) {
                return -1;
            }
            drawn = seed;
            World w = now;
            int got = 0;
            for (int i = 0; i < n; i++) {
                int kind = draw(4);
                if (kind == 0) {
                    w = dayOn(w);
                } else if (kind == 3) {
                    int who = draw(7);
                    w = act(w, "c", who, draw(256));
                    got += did >= 0 ? 1 : 0;
                } else if (!marks.isEmpty()) {
                    int a = draw(kind == 1 ? marks.size() : 6);
                    int b = draw(kind == 1 ? 6 : marks.size());
                    w = act(w, kind == 1 ? "l" : "f", a, b);
                }
            }
            tell(w.bits("had", 6), w.bits("in", -1));
            return got;
        }

        boolean keep(int i) {
            if (i != 0 && i != 1) {
                return false;
            }
            kept[i] = now;
            return true;
        }

        boolean again(int i) {
            if (i != 0 && i != 1 || kept[i] == null) {
                return false;
            }
            now = kept[i];
            past.clear();
            return true;
        }

        long count(int what) {
            long[] all = {marks.size(), needs.size(), term, 100 + need, now.day, now.paid, state(),
                now.bits("lost", -1), now.bits("in", -1), saids.size(), past.size(), row.size(), text.length()};
            return what >= 0 && what < all.length ? all[what] : -1;
        }
    }
}
