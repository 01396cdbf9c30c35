import java.math.BigInteger;
import java.util.ArrayList;
import java.util.Arrays;
import java.util.HashMap;
import java.util.HashSet;
import java.util.List;
import java.util.Map;
import java.util.NoSuchElementException;
import java.util.Set;
import java.util.regex.Matcher;
import java.util.regex.Pattern;

/**
 * The document once more, written otherwise: trees instead of steps, lists instead of rows, whole copies instead
 * of a log, a calculation without bounds. It is slow and makes what it likes; RandomRunsTest holds the class to it.
 */
final class ModelClock {
    private static final int NONE = -1;
    private static final Set<String> LANGUAGE = new HashSet<>(Arrays.asList("man", "ring", "meet", "cold", "crowd",
            "seed", "law", "talk", "late", "drift", "or", "and", "not", "talks", "waits", "off", "rate", "queue",
            "told", "minute"));
    private static final Set<String> NAMES = new HashSet<>(Arrays.asList("talks", "waits", "off", "rate", "queue",
            "told", "minute"));

    // ---------------------------------------------------------------- the text

    static final class Fault extends RuntimeException {
        final int what;
        final int place;

        Fault(int what, int place) {
            this.what = what;
            this.place = place;
        }
    }

    static final class Token {
        final String text;
        final int place;

        Token(String text, int place) {
            this.text = text;
            this.place = place;
        }
    }

    static final class Person {
        String name;
        int talks;
        int waits;
        int off;
        int rate;
    }

    static final class Text {
        final List<Person> people = new ArrayList<>();
        final List<int[]> rings = new ArrayList<>();
        final List<int[]> meets = new ArrayList<>();
        final List<int[]> colds = new ArrayList<>();
        final Map<String, Tree> laws = new HashMap<>();
        Integer crowd = null;
        Integer seed = null;
        int knots = 0;
        int lines = 0;

        int find(String name) {
            for (int i = 0; i < people.size(); i++) {
                if (people.get(i).name.equals(name)) {
                    return i;
                }
            }
            return NONE;
        }
    }

    static final class Tree {
        final String sign;
        final Tree left;
        final Tree right;

        Tree(String sign, Tree left, Tree right) {
            this.sign = sign;
            this.left = left;
            this.right = right;
        }

        /** null: an ERROR. */
        BigInteger worth(Map<String, Integer> names) {
            if (left == null) {
                return Character.isDigit(sign.charAt(0)) ? new BigInteger(sign) : BigInteger.valueOf(names.get(sign));
            }
            BigInteger a = left.worth(names);
            if (sign.equals("not")) {
                return a == null ? null : bit(a.signum() == 0);
            }
            BigInteger b = right.worth(names);
            if (a == null || b == null || sign.equals("/") && b.signum() == 0) {
                return null;
            }
            BigInteger c = join(a, b);
            return c.abs().compareTo(BigInteger.TEN.pow(12)) > 0 ? null : c;
        }

        private BigInteger join(BigInteger a, BigInteger b) {
            int order = a.compareTo(b);
            switch (sign) {
                case "+": return a.add(b);
                case "-": return a.subtract(b);
                case "*": return a.multiply(b);
                case "/": return a.divide(b);
                case "and": return bit(a.signum() != 0 && b.signum() != 0);
                case "or": return bit(a.signum() != 0 || b.signum() != 0);
                case "<": return bit(order < 0);
                case "<=": return bit(order <= 0);
                case "=": return bit(order == 0);
                case "<>": return bit(order != 0);
                case ">=": return bit(order >= 0);
                case ">": return bit(order > 0);
                default: throw new AssertionError(sign);
            }
        }

        private static BigInteger bit(boolean yes) {
            return yes ? BigInteger.ONE : BigInteger.ZERO;
        }
    }

    static final class Grammar {
        private static final Pattern TOKEN = Pattern.compile("[ \n]+|[a-z]+|[0-9]+|<=|<>|>=|(?s:.)");
        private final List<Token> tokens = new ArrayList<>();
        private final Text text = new Text();
        private int next = 0;
        private int open = 0;

        Grammar(String signs) {
            Matcher m = TOKEN.matcher(signs);
            int at = 0;
            while (at < signs.length() && m.find(at)) {
                if (m.group().trim().length() > 0 || !m.group().matches("[ \n]+")) {
                    tokens.add(new Token(m.group(), at));
                }
                at = m.end();
            }
            tokens.add(new Token("", signs.length()));
        }

        Text all() {
            while (!is("")) {
                line();
                text.lines++;
            }
            return text;
        }

        private Token now() {
            return tokens.get(next);
        }

        private boolean is(String... some) {
            return Arrays.asList(some).contains(now().text);
        }

        private String take(boolean fine, int elseFault) {
            if (!fine) {
                throw new Fault(elseFault, now().place);
            }
            return tokens.get(next++).text;
        }

        private String own() {
            String w = now().text;
            if (!w.matches("[a-z]{1,6}") || LANGUAGE.contains(w)) {
                throw new Fault(1, now().place);
            }
            return w;
        }

        private int number(int least, int most) {
            String digits = now().text;
            if (!digits.matches("[0-9]+")) {
                throw new Fault(1, now().place);
            }
            BigInteger n = new BigInteger(digits);
            boolean fine = n.compareTo(BigInteger.valueOf(least)) >= 0 && n.compareTo(BigInteger.valueOf(most)) <= 0;
            take(fine, 2);
            return n.intValue();
        }

        private int signed(int most) {
            boolean minus = is("-");
            if (minus) {
                next++;
            }
            int n = number(0, most);
            return minus ? -n : n;
        }

        private int person() {
            int i = text.find(own());
            take(i != NONE, 4);
            return i;
        }

        private void line() {
            switch (now().text) {
                case "man":
                    take(text.people.size() < 6, 2);
                    Person p = new Person();
                    p.name = own();
                    take(text.find(p.name) == NONE, 3);
                    p.talks = number(1, 9);
                    p.waits = number(0, 30);
                    p.off = signed(30);
                    p.rate = signed(9);
                    text.people.add(p);
                    break;
                case "ring":
                    take(text.rings.size() < 10, 2);
                    text.rings.add(new int[] {person(), number(0, 200)});
                    break;
                case "meet":
                    take(text.meets.size() < 6, 2);
                    int one = person();
                    if (text.find(own()) == one) {
                        throw new Fault(5, now().place);
                    }
                    text.meets.add(new int[] {one, person(), number(0, 300)});
                    break;
                case "cold":
                    take(text.colds.size() < 3, 2);
                    int from = number(0, 200);
                    text.colds.add(new int[] {from, number(from, 200)});
                    break;
                case "crowd":
                    take(text.crowd == null, 3);
                    text.crowd = number(0, 100);
                    break;
                case "seed":
                    take(text.seed == null, 3);
                    text.seed = number(0, 99999);
                    break;
                case "law":
                    next++;
                    if (!is("talk", "late", "drift")) {
                        throw new Fault(1, now().place);
                    }
                    String law = take(!text.laws.containsKey(now().text), 3);
                    text.laws.put(law, e());
                    break;
                default:
                    throw new Fault(1, now().place);
            }
            take(is(";"), 1);
        }

        private String knot() {
            text.knots++;
            return take(text.knots <= 64, 2);
        }

        private Tree e() {
            Tree t = a();
            while (is("or")) {
                t = new Tree(knot(), t, a());
            }
            return t;
        }

        private Tree a() {
            Tree t = b();
            while (is("and")) {
                t = new Tree(knot(), t, b());
            }
            return t;
        }

        private Tree b() {
            if (is("not")) {
                return new Tree(knot(), b(), null);
            }
            return c();
        }

        private Tree c() {
            Tree t = s();
            if (is("<", "<=", "=", "<>", ">=", ">")) {
                t = new Tree(knot(), t, s());
            }
            return t;
        }

        private Tree s() {
            Tree t = t();
            while (is("+", "-")) {
                t = new Tree(knot(), t, t());
            }
            return t;
        }

        private Tree t() {
            Tree t = p();
            while (is("*", "/")) {
                t = new Tree(knot(), t, p());
            }
            return t;
        }

        private Tree p() {
            String now = now().text;
            if (now.equals("(")) {
                take(++open <= 8, 2);
                Tree t = e();
                take(is(")"), 1);
                open--;
                return t;
            }
            if (now.matches("[0-9]+")) {
                if (new BigInteger(now).compareTo(BigInteger.valueOf(9999)) > 0) {
                    throw new Fault(2, now().place);
                }
                return new Tree(knot(), null, null);
            }
            if (!NAMES.contains(now)) {
                throw new Fault(1, now().place);
            }
            return new Tree(knot(), null, null);
        }
    }

    // ---------------------------------------------------------------- the minutes

    static final class World {
        int minute = 0;
        int[] off = new int[6];
        int[] ahead = new int[6];
        int[] told = new int[6];
        List<Integer> row = new ArrayList<>();
        Integer talker = null;
        int left = 0;
        int[] time = new int[6];
        Integer[][] came = new Integer[6][2];
        int[] outcome = new int[6];
        long number = 0;
        int strangers = 0;

        World copy() {
            World w = new World();
            w.minute = minute;
            w.off = off.clone();
            w.ahead = ahead.clone();
            w.told = told.clone();
            w.row = new ArrayList<>(row);
            w.talker = talker;
            w.left = left;
            w.time = time.clone();
            for (int i = 0; i < 6; i++) {
                w.came[i] = came[i].clone();
            }
            w.outcome = outcome.clone();
            w.number = number;
            w.strangers = strangers;
            return w;
        }

        int state(int man) {
            if (talker != null && talker == man) {
                return 2;
            }
            return row.contains(man) ? 1 : 0;
        }

        boolean join(int man) {
            if (state(man) != 0 || row.size() == 20) {
                return false;
            }
            ahead[man] = row.size() + (talker == null ? 0 : 1);
            row.add(man);
            return true;
        }

        int total(int what) {
            int n = 0;
            for (int o : outcome) {
                n += o == what ? 1 : 0;
            }
            return n;
        }
    }

    /** What a try changes. */
    static final class Other {
        boolean drawn = false;
        boolean noCrowd = false;
        boolean noCold = false;
        int silent = NONE;
        boolean noDrift = false;
        boolean waitLong = false;
        int rateOf = NONE;
        int rate = 0;
    }

    private Text text = new Text();
    private World now = new World();
    private World image = null;
    private final List<World> undo = new ArrayList<>();
    private final List<int[]> seen = new ArrayList<>();
    private int known = NONE;
    private StringBuilder tape = new StringBuilder();
    private int fault = 0;
    private int place = NONE;

    private int rateOf(int man, Other o) {
        return o.rateOf == man ? o.rate : text.people.get(man).rate;
    }

    private int waitsOf(int man, Other o) {
        return o.waitLong ? 30 : text.people.get(man).waits;
    }

    private BigInteger lawValue(World w, String law, int man, int queue, Other o) {
        Tree t = text.laws.get(law);
        if (t == null) {
            return null;
        }
        Map<String, Integer> names = new HashMap<>();
        names.put("talks", text.people.get(man).talks);
        names.put("waits", waitsOf(man, o));
        names.put("off", w.off[man]);
        names.put("rate", rateOf(man, o));
        names.put("queue", queue);
        names.put("told", w.told[man]);
        names.put("minute", w.minute);
        return t.worth(names);
    }

    private static int clamp(BigInteger v, int least, int most) {
        return v.max(BigInteger.valueOf(least)).min(BigInteger.valueOf(most)).intValue();
    }

    private void minute(World w, Other o) {
        for (int[] r : text.rings) {
            if (r[1] == w.minute && r[0] != o.silent) {
                w.join(r[0]);
            }
        }
        int crowd = text.crowd == null || o.noCrowd ? 0 : text.crowd;
        boolean comes;
        if (!o.drawn) {
            comes = crowd >= 50;
        } else if (crowd == 0) {
            comes = false;
        } else if (crowd == 100) {
            comes = true;
        } else {
            w.number = (w.number * 1103515245L + 12345L) % (1L << 31);
            comes = w.number / 65536 % 100 < crowd;
        }
        if (comes) {
            w.strangers++;
            if (w.row.size() < 20) {
                w.row.add(-2);
            }
        }
        if (w.talker == null && !w.row.isEmpty()) {
            int who = w.row.remove(0);
            int minutes = 2;
            if (who >= 0) {
                BigInteger v = lawValue(w, "talk", who, w.row.size(), o);
                minutes = v == null ? text.people.get(who).talks : clamp(v, 1, 20);
            }
            for (int[] c : text.colds) {
                if (!o.noCold && c[0] <= w.minute && w.minute <= c[1]) {
                    minutes = Math.min(20, 2 * minutes);
                    break;
                }
            }
            w.talker = who;
            w.left = minutes;
        }
        if (w.talker != null && --w.left == 0) {
            int who = w.talker;
            if (who >= 0) {
                BigInteger v = lawValue(w, "late", who, w.ahead[who], o);
                w.off[who] = v == null ? Math.max(-30, -w.ahead[who]) : clamp(v, -30, 30);
                w.told[who]++;
            }
            w.talker = null;
        }
        if (w.minute % 10 == 9 && !o.noDrift) {
            for (int i = 0; i < text.people.size(); i++) {
                BigInteger v = lawValue(w, "drift", i, w.row.size(), o);
                int more = v == null ? rateOf(i, o) : clamp(v, -9, 9);
                w.off[i] = Math.max(-99, Math.min(99, w.off[i] + more));
            }
        }
        for (int m = 0; m < text.meets.size(); m++) {
            int[] both = text.meets.get(m);
            for (int side = 0; side < 2; side++) {
                if (w.came[m][side] == null && w.minute + w.off[both[side]] >= w.time[m]) {
                    w.came[m][side] = w.minute;
                }
            }
            if (w.outcome[m] == 0 && w.came[m][0] != null && w.came[m][1] != null) {
                int least = Math.min(waitsOf(both[0], o), waitsOf(both[1], o));
                w.outcome[m] = Math.abs(w.came[m][0] - w.came[m][1]) <= least ? 1 : 2;
            }
        }
        w.minute++;
    }

    private World after(World from, int n, Other o) {
        World w = from.copy();
        for (int i = 0; i < n; i++) {
            minute(w, o);
        }
        return w;
    }

    private World fresh() {
        World w = new World();
        for (int i = 0; i < text.people.size(); i++) {
            w.off[i] = text.people.get(i).off;
        }
        for (int i = 0; i < text.meets.size(); i++) {
            w.time[i] = text.meets.get(i)[2];
        }
        w.number = text.seed == null ? 0 : text.seed;
        return w;
    }

    private boolean person(int man) {
        return man >= 0 && man < text.people.size();
    }

    private boolean meets(int m) {
        return m >= 0 && m < text.meets.size();
    }

    private void remember() {
        undo.add(now.copy());
        if (undo.size() > 20) {
            undo.remove(0);
        }
    }

    private boolean close(World w, int without, int bound) {
        for (int i = 0; i < text.people.size(); i++) {
            for (int j = 0; j < text.people.size(); j++) {
                if ((without >> i & 1) == 0 && (without >> j & 1) == 0 && w.off[i] - w.off[j] > bound) {
                    return false;
                }
            }
        }
        return true;
    }


    // ---------------------------------------------------------------- the face

    int feed(int... five) {
        if (tape.length() + 20 > 700) {
            return NONE;
        }
        for (int v : five) {
            tape.append((char) (v >>> 24)).append((char) (v >>> 16 & 255)).append((char) (v >>> 8 & 255))
                    .append((char) (v & 255));
        }
        return tape.length();
    }

    int text(int n) {
        if (n < 0 || n > tape.length()) {
            return -2;
        }
        String signs = tape.substring(0, n);
        tape = new StringBuilder();
        try {
            text = new Grammar(signs).all();
        } catch (Fault f) {
            fault = f.what;
            place = f.place;
            return NONE;
        }
        fault = 0;
        place = NONE;
        now = fresh();
        image = null;
        undo.clear();
        seen.clear();
        known = NONE;
        return text.lines;
    }

    int fault(int what) {
        return what == 0 ? fault : what == 1 ? place : NONE;
    }

    int named(int letters) {
        for (int i = 0; i < text.people.size(); i++) {
            String name = (text.people.get(i).name + "``````").substring(0, 6);
            int code = 0;
            for (char c : name.toCharArray()) {
                code = code * 32 + c - '`';
            }
            if (code == letters) {
                return i;
            }
        }
        return NONE;
    }

    int man(int man, int what) {
        if (!person(man)) {
            throw new IndexOutOfBoundsException();
        }
        Person p = text.people.get(man);
        switch (what) {
            case 0: return p.talks;
            case 1: return p.waits;
            case 2: return now.off[man];
            case 3: return p.rate;
            case 4: return now.state(man);
            case 5: return now.ahead[man];
            case 6: return now.told[man];
            case 7: return now.row.indexOf(man);
            default: throw new NoSuchElementException();
        }
    }

    int meeting(int m, int what) {
        if (!meets(m) || what < 0 || what > 5) {
            return NONE;
        }
        Integer came = what < 4 ? null : now.came[m][what - 4];
        int[] answers = {text.meets.get(m)[0], text.meets.get(m)[1], now.time[m], now.outcome[m],
            came == null ? NONE : came, came == null ? NONE : came};
        return answers[what];
    }

    int shows(int man) {
        return person(man) ? now.minute + now.off[man] : Integer.MIN_VALUE;
    }

    long law(int what, int man) {
        if (what < 0 || what > 2 || !person(man)) {
            return Long.MIN_VALUE;
        }
        String[] laws = {"talk", "late", "drift"};
        BigInteger v = lawValue(now, laws[what], man, what == 1 ? now.ahead[man] : now.row.size(), new Other());
        return v == null ? Long.MIN_VALUE : v.longValueExact();
    }

    int ring(int man) {
        if (!person(man)) {
            return NONE;
        }
        World before = now.copy();
        if (!now.join(man)) {
            return -2;
        }
        World after = now;
        now = before;
        remember();
        now = after;
        return now.ahead[man];
    }

    boolean hangUp(int man) {
        if (!person(man) || now.state(man) == 0) {
            return false;
        }
        remember();
        if (now.state(man) == 2) {
            now.talker = null;
        } else {
            now.row.remove(Integer.valueOf(man));
        }
        return true;
    }

    boolean set(int man, int off) {
        if (!person(man) || Math.abs((long) off) > 99 || now.off[man] == off) {
            return false;
        }
        remember();
        now.off[man] = off;
        return true;
    }

    boolean putOff(int m, int time) {
        if (!meets(m) || time < 0 || time > 999 || now.came[m][0] != null || now.came[m][1] != null
                || now.time[m] == time) {
            return false;
        }
        remember();
        now.time[m] = time;
        return true;
    }

    int go(int n) {
        if (n < 0 || n > 200 || now.minute + n > 9000) {
            return NONE;
        }
        Other o = new Other();
        o.drawn = true;
        now = after(now, n, o);
        if (n > 0) {
            undo.clear();
        }
        return now.minute;
    }

    int ahead(int n, int what, int man) {
        if (n < 0 || n > 200 || what < 0 || what > 3 || what == 2 && !person(man)) {
            return Integer.MIN_VALUE;
        }
        World w = after(now, n, new Other());
        if (what < 2) {
            return w.total(what + 1) - now.total(what + 1);
        }
        return what == 2 ? w.off[man] : w.row.size();
    }

    int delay(int man) {
        if (!person(man)) {
            return NONE;
        }
        World w = now.copy();
        int told = w.told[man];
        w.join(man);
        for (int n = 1; n <= 99; n++) {
            minute(w, new Other());
            if (w.told[man] != told) {
                return n;
            }
        }
        return -2;
    }

    int bestRing(int man, int n, int what) {
        if (!person(man) || n < 0 || n > 60 || what < 0 || what > 1) {
            return NONE;
        }
        int[] best = {-2, 1000};
        for (int k = 0; k <= n; k++) {
            World w = after(now, k, new Other());
            int told = w.told[man];
            if (!w.join(man)) {
                continue;
            }
            for (int m = 1; m <= 99; m++) {
                minute(w, new Other());
                if (w.told[man] > told) {
                    if (m < best[1]) {
                        best[0] = k;
                        best[1] = m;
                    }
                    break;
                }
            }
        }
        return best[0] == -2 ? -2 : best[what];
    }

    int near(int bound) {
        if (bound < 0 || bound > 60) {
            return NONE;
        }
        int best = -2;
        for (int bits = 0; bits < 1 << text.people.size(); bits++) {
            World w = now.copy();
            for (int i = 0; i < text.people.size(); i++) {
                if ((bits >> i & 1) == 1) {
                    w.join(i);
                }
            }
            if (close(after(w, 60, new Other()), 0, bound)
                    && (best == -2 || Integer.bitCount(bits) < Integer.bitCount(best))) {
                best = bits;
            }
        }
        return best;
    }

    int liars(int bound) {
        if (bound < 0 || bound > 60) {
            return NONE;
        }
        int best = NONE;
        for (int bits = 0; bits < 1 << text.people.size(); bits++) {
            if (close(now, bits, bound) && (best == NONE || Integer.bitCount(bits) < Integer.bitCount(best))) {
                best = bits;
            }
        }
        return best;
    }

    int median() {
        List<Integer> sorted = new ArrayList<>();
        for (int i = 0; i < text.people.size(); i++) {
            sorted.add(i);
        }
        sorted.sort((x, y) -> now.off[x] - now.off[y]);
        return sorted.isEmpty() ? NONE : sorted.get(sorted.size() / 2);
    }

    int agree(int bound) {
        if (bound < 0 || bound > 60) {
            return NONE;
        }
        for (int n = 0; n <= 99; n++) {
            if (close(after(now, n, new Other()), 0, bound)) {
                return n;
            }
        }
        return -2;
    }

    int needs(int m) {
        if (!meets(m) || now.came[m][0] != null || now.came[m][1] != null) {
            return NONE;
        }
        for (int k = 0; k <= 60; k++) {
            World w = now.copy();
            w.time[m] += k;
            if (after(w, 200, new Other()).outcome[m] == 1) {
                return k;
            }
        }
        return -2;
    }

    int certain() {
        World w = after(now, 200, new Other());
        int bits = 0;
        for (int m = 0; m < text.meets.size(); m++) {
            bits += w.outcome[m] == 1 ? 1 << m : 0;
        }
        return bits;
    }

    int latest() {
        int best = NONE;
        for (int i = text.people.size() - 1; i >= 0; i--) {
            best = best == NONE || now.off[i] <= now.off[best] ? i : best;
        }
        return best;
    }

    private static int has(int own, int other) {
        return (own > other ? 6 : own == other ? 2 : 0) - own / 4;
    }

    private List<Integer> restsOf(int one, int other) {
        List<Integer> found = new ArrayList<>();
        int a = text.people.get(one).talks;
        int b = text.people.get(other).talks;
        for (int i = 1; i <= 4; i++) {
            for (int j = 1; j <= 4; j++) {
                int bestA = Integer.MIN_VALUE;
                int bestB = Integer.MIN_VALUE;
                for (int k = 1; k <= 4; k++) {
                    bestA = Math.max(bestA, has(k * a, j * b));
                    bestB = Math.max(bestB, has(k * b, i * a));
                }
                if (has(i * a, j * b) == bestA && has(j * b, i * a) == bestB) {
                    found.add(10 * i + j);
                }
            }
        }
        return found;
    }

    int rests(int one, int other) {
        return person(one) && person(other) && one != other ? restsOf(one, other).size() : NONE;
    }

    int rest(int one, int other, int k) {
        if (!person(one) || !person(other) || one == other || k < 0) {
            return NONE;
        }
        List<Integer> all = restsOf(one, other);
        return k < all.size() ? all.get(k) : -2;
    }

    int apart(int one, int other) {
        return person(one) && person(other) ? Math.abs(shows(one) - shows(other)) : NONE;
    }

    int quiet() {
        for (int n = 0; n <= 200; n++) {
            World w = after(now, n, new Other());
            if (w.row.isEmpty() && w.talker == null) {
                return n;
            }
        }
        return -2;
    }

    int firstMissed(int what) {
        if (what != 0 && what != 1) {
            return NONE;
        }
        for (int n = 1; n <= 200; n++) {
            World w = after(now, n, new Other());
            for (int m = 0; m < text.meets.size(); m++) {
                if (w.outcome[m] == 2 && now.outcome[m] == 0) {
                    return what == 0 ? n : m;
                }
            }
        }
        return -2;
    }

    int longest(int n) {
        if (n < 0 || n > 200) {
            return NONE;
        }
        int most = now.row.size();
        World w = now.copy();
        for (int i = 0; i < n; i++) {
            minute(w, new Other());
            most = Math.max(most, w.row.size());
        }
        return most;
    }

    int queue(int k) {
        return k < 0 || k >= now.row.size() ? NONE : now.row.get(k);
    }

    int there(int man) {
        if (!person(man)) {
            return NONE;
        }
        int bits = 0;
        for (int m = 0; m < text.meets.size(); m++) {
            for (int side = 0; side < 2; side++) {
                if (text.meets.get(m)[side] == man && now.came[m][side] != null) {
                    bits |= 1 << m;
                }
            }
        }
        return bits;
    }

    int see(int minutes, int man, int shown, boolean atLeast) {
        if (minutes < 1 || minutes > 99 || !person(man) || shown < -200 || shown > 400 || seen.size() == 24) {
            return NONE;
        }
        seen.add(new int[] {minutes, man, shown, atLeast ? 1 : 0});
        return seen.size() - 1;
    }

    int strike(int number) {
        if (number < 0 || number >= seen.size() || seen.size() == 24) {
            return NONE;
        }
        seen.add(new int[] {number});
        return seen.size() - 1;
    }

    boolean known(int n) {
        if (n < -1 || n > seen.size()) {
            return false;
        }
        known = n;
        return true;
    }

    private boolean struck(int i, int many) {
        for (int j = i + 1; j < many; j++) {
            if (seen.get(j).length == 1 && seen.get(j)[0] == i && !struck(j, many)) {
                return true;
            }
        }
        return false;
    }

    int rates(int man) {
        if (!person(man)) {
            return NONE;
        }
        int many = known == NONE ? seen.size() : known;
        int bits = 0;
        for (int r = -4; r <= 5; r++) {
            Other o = new Other();
            o.rateOf = man;
            o.rate = r;
            boolean all = true;
            for (int i = 0; i < many; i++) {
                int[] s = seen.get(i);
                if (s.length == 4 && !struck(i, many)) {
                    int showed = s[0] + after(fresh(), s[0], o).off[s[1]];
                    all &= s[3] == 1 ? showed >= s[2] : showed < s[2];
                }
            }
            bits |= all ? 1 << r + 4 : 0;
        }
        return bits;
    }

    int chance(int seed, int n, int m) {
        if (seed < 0 || n < 1 || n > 200 || !meets(m)) {
            return NONE;
        }
        Other o = new Other();
        o.drawn = true;
        long number = seed;
        int kept = 0;
        for (int i = 0; i < 10; i++) {
            World w = now.copy();
            w.number = number;
            w = after(w, n, o);
            number = w.number;
            kept += w.outcome[m] == 1 ? 1 : 0;
        }
        return kept;
    }

    int tried(int what, int i, int n) {
        if (what < 0 || what > 4 || n < 0 || n > 200 || (what == 2 ? !person(i) : i != 0)) {
            return NONE;
        }
        Other o = new Other();
        o.noCrowd = what == 0;
        o.noCold = what == 1;
        o.silent = what == 2 ? i : NONE;
        o.noDrift = what == 3;
        o.waitLong = what == 4;
        return after(now, n, o).total(1) - now.total(1);
    }

    int undo() {
        if (undo.isEmpty()) {
            return NONE;
        }
        now = undo.remove(undo.size() - 1);
        return undo.size();
    }

    int keep() {
        image = now.copy();
        return now.minute;
    }

    int back() {
        if (image == null) {
            return NONE;
        }
        now = image.copy();
        undo.clear();
        return now.minute;
    }

    int count(int what) {
        switch (what) {
            case 0: return text.people.size();
            case 1: return text.rings.size();
            case 2: return text.meets.size();
            case 3: return text.knots;
            case 4: return now.minute;
            case 5: return now.row.size();
            case 6: return now.talker == null ? 0 : 1;
            case 7: return Arrays.stream(now.told).sum();
            case 8: return now.total(1);
            case 9: return now.total(2);
            case 10: return now.strangers;
            case 11: return seen.size();
            case 12: return known == NONE ? seen.size() : known;
            case 13: return undo.size();
            default: return NONE;
        }
    }
}
