import java.nio.charset.StandardCharsets;
import java.util.NoSuchElementException;
import java.util.Random;

/**
 * Runs of calls by chance (from fixed seeds) on the class and on the model: each answer must be the same, and
 * nothing but what the document names may be thrown. An argument gives how many runs, a second one the first seed.
 */
public final class RandomRunsTest {
    private static final String[] OWN = {"a", "b", "ann", "bob", "zoe", "abcdef", "x", "dot", "mans"};
    private static final String[] NAMES = {"talks", "waits", "off", "rate", "queue", "told", "minute"};
    private static final String[] SIGNS = {"+", "-", "*", "/", "<", "<=", "=", "<>", ">=", ">", "and", "or", "+", "-",
        "*", "/"};
    private static final String[] ANY = {";", "man", "ring", "meet", "cold", "crowd", "seed", "law", "talk", "late",
        "drift", "or", "and", "not", "talks", "off", "(", ")", "<", "<=", "=", "<>", ">=", ">", "+", "-", "*", "/",
        "0", "1", "7", "99", "31", "201", "10000", "123456789012", "a", "ann", "x", "abcdefg", "A", "!", "\t",
        "\u00e9", "\u0000", "< =", "=<"};

    private final Random random;
    private final SpeakClock clock = new SpeakClock();
    private final ModelClock model = new ModelClock();
    private final StringBuilder story = new StringBuilder();
    private int people = 0;

    private RandomRunsTest(long seed) {
        random = new Random(seed);
    }

    public static void main(String[] args) {
        int runs = args.length > 0 ? Integer.parseInt(args[0]) : 400;
        int first = args.length > 1 ? Integer.parseInt(args[1]) : 0;
        int wrong = 0;
        for (int seed = first; seed < first + runs && wrong < 5; seed++) {
            if (!new RandomRunsTest(seed).isSame()) {
                wrong++;
            }
        }
        System.out.println(wrong == 0 ? runs + " runs: the class and the model answer alike" : wrong + " runs differ");
        if (wrong != 0) {
            System.exit(1);
        }
    }

    private boolean isSame() {
        int calls = 0;
        while (calls < 440) {
            int before = story.length();
            if (calls == 0 || random.nextInt(60) == 0) {
                calls += tell();
            } else {
                step();
                calls++;
            }
            int at = story.indexOf(" BUT ", before);
            if (at >= 0) {
                System.out.println(story);
                return false;
            }
        }
        return true;
    }

    private void compare(String call, Object got, Object due) {
        story.append(call).append(" -> ").append(got);
        if (!got.equals(due)) {
            story.append(" BUT ").append(due);
        }
        story.append('\n');
    }

    private int tell() {
        String text = text();
        byte[] bytes = text.getBytes(StandardCharsets.ISO_8859_1);
        int calls = 0;
        for (int at = 0; at < bytes.length; at += 20) {
            int[] five = new int[5];
            for (int i = 0; i < 20; i++) {
                int b = at + i < bytes.length ? bytes[at + i] & 255 : 32;
                five[i / 4] = five[i / 4] << 8 | b;
            }
            int got = clock.feed(five[0], five[1], five[2], five[3], five[4]);
            compare("feed", got, model.feed(five));
            calls++;
        }
        int n = random.nextInt(20) == 0 ? random.nextInt(720) - 10 : Math.min(bytes.length, 700);
        compare("text(" + n + ") \"" + text + "\"", clock.text(n), model.text(n));
        compare("fault(0)", clock.fault(0), model.fault(0));
        compare("fault(1)", clock.fault(1), model.fault(1));
        people = model.count(0);
        return calls + 3;
    }

    private int below(int n) {
        return random.nextInt(n);
    }

    private String one(String[] of) {
        return of[below(of.length)];
    }

    private String text() {
        StringBuilder s = new StringBuilder();
        int told = 1 + below(6);
        for (int i = 0; i < told; i++) {
            s.append("man ").append(OWN[i]).append(' ').append(1 + below(9)).append(' ')
                    .append(below(3) == 0 ? 30 : below(12)).append(below(2) == 0 ? " " : " -").append(below(31))
                    .append(below(2) == 0 ? " - " : " ").append(below(10)).append(';');
        }
        int rings = below(11);
        for (int i = 0; i < rings; i++) {
            s.append("ring ").append(OWN[below(told)]).append(' ').append(below(3) == 0 ? below(201) : below(20))
                    .append(";\n".substring(0, 1 + below(2)));
        }
        int meets = told < 2 ? 0 : below(7);
        for (int i = 0; i < meets; i++) {
            int one = below(told);
            s.append("meet ").append(OWN[one]).append(' ').append(OWN[(one + 1 + below(told - 1)) % told]).append(' ')
                    .append(below(4) == 0 ? below(301) : below(60)).append(';');
        }
        int colds = below(3);
        for (int i = 0; i < colds; i++) {
            int from = below(40);
            s.append("cold ").append(from).append(' ').append(from + below(30)).append(';');
        }
        if (below(2) == 0) {
            int[] crowds = {0, 1, 20, 40, 49, 50, 60, 99, 100, below(101)};
            s.append("crowd ").append(crowds[below(10)]).append(';');
        }
        if (below(2) == 0) {
            s.append("seed ").append(below(100000)).append(';');
        }
        for (String law : new String[] {"talk", "late", "drift"}) {
            if (below(2) == 0) {
                s.append("law ").append(law).append(' ').append(formula(0)).append(';');
            }
        }
        return below(3) == 0 ? spoiled(s) : s.toString();
    }

    private String formula(int depth) {
        int kind = below(depth > 5 ? 3 : 10);
        if (kind < 2) {
            return one(NAMES);
        }
        if (kind == 2) {
            return String.valueOf(below(3) == 0 ? below(10000) : below(12));
        }
        if (kind == 3) {
            return "(" + formula(depth + 1) + ")";
        }
        if (kind == 4) {
            return "not " + formula(depth + 1);
        }
        return formula(depth + 1) + " " + one(SIGNS) + (below(2) == 0 ? " " : "") + formula(depth + 1);
    }

    private String spoiled(StringBuilder s) {
        int times = 1 + below(2);
        for (int i = 0; i < times; i++) {
            int at = below(s.length() + 1);
            int kind = below(4);
            if (kind == 0) {
                s.insert(at, one(ANY));
            } else if (kind == 1) {
                s.delete(at, Math.min(s.length(), at + 1 + below(3)));
            } else if (kind == 2) {
                int blank = s.indexOf(" ", at);
                s.insert(Math.max(blank, 0), " " + one(ANY));
            } else {
                int semicolon = s.indexOf(";", at) + 1;
                s.insert(semicolon, s.substring(0, s.indexOf(";") + 1));
            }
            if (s.length() == 0) {
                s.append(' ');
            }
        }
        return s.toString();
    }

    private int man() {
        return below(12) == 0 ? below(10) - 2 : below(Math.max(1, people));
    }

    private int meeting() {
        return below(12) == 0 ? below(10) - 2 : below(Math.max(1, model.count(2)));
    }

    private int wild(int least, int most) {
        int kind = below(40);
        if (kind == 0) {
            return new int[] {Integer.MIN_VALUE, Integer.MAX_VALUE, least - 1, most + 1, -1, 0}[below(6)];
        }
        return least + below(most - least + 1);
    }

    private void step() {
        int which = below(60);
        if (which < 20) {
            act(which);
        } else if (which < 40) {
            ask(which - 20);
        } else {
            askMore(which - 40);
        }
    }

    private void act(int which) {
        int p = man();
        int m = meeting();
        switch (which) {
            case 0: case 1: case 2: case 3:
                compare("ring(" + p + ")", clock.ring(p), model.ring(p));
                break;
            case 4: case 5:
                compare("hangUp(" + p + ")", clock.hangUp(p), model.hangUp(p));
                break;
            case 6: case 7:
                int off = wild(-99, 99);
                compare("set(" + p + ", " + off + ")", clock.set(p, off), model.set(p, off));
                break;
            case 8: case 9:
                int time = below(2) == 0 ? model.count(4) + below(60) : wild(0, 999);
                compare("putOff(" + m + ", " + time + ")", clock.putOff(m, time), model.putOff(m, time));
                break;
            case 10: case 11: case 12:
                int n = below(12) == 0 ? wild(0, 200) : below(6);
                compare("go(" + n + ")", clock.go(n), model.go(n));
                break;
            case 13: case 14:
                compare("undo()", clock.undo(), model.undo());
                break;
            case 15:
                compare("keep()", clock.keep(), model.keep());
                break;
            case 16:
                compare("back()", clock.back(), model.back());
                break;
            case 17:
                int minutes = wild(1, 99);
                int shown = below(10) == 0 ? wild(-200, 400) : minutes + below(60) - 30;
                boolean atLeast = below(2) == 0;
                compare("see(" + minutes + ", " + p + ", " + shown + ", " + atLeast + ")",
                        clock.see(minutes, p, shown, atLeast), model.see(minutes, p, shown, atLeast));
                break;
            case 18:
                int seen = below(Math.max(1, model.count(11) + 1)) - below(2);
                compare("strike(" + seen + ")", clock.strike(seen), model.strike(seen));
                break;
            default:
                int known = below(3) == 0 ? -1 : below(model.count(11) + 3) - 2;
                compare("known(" + known + ")", clock.known(known), model.known(known));
                break;
        }
    }

    private void ask(int which) {
        int p = man();
        int q = man();
        int m = meeting();
        int bound = below(3) == 0 ? wild(0, 60) : below(20);
        int what = below(5) - below(2);
        int n = wild(0, 200);
        switch (which) {
            case 0: case 1: compareMan(p, below(10) - 1); break;
            case 2: what = below(8) - 1;
                compare("meeting(" + m + ", " + what + ")", clock.meeting(m, what), model.meeting(m, what)); break;
            case 3: compare("shows(" + p + ")", clock.shows(p), model.shows(p)); break;
            case 4: case 5: compare("law(" + what + ", " + p + ")", clock.law(what, p), model.law(what, p)); break;
            case 6: case 7: compare("ahead(" + n + ", " + what + ", " + p + ")", clock.ahead(n, what, p),
                    model.ahead(n, what, p)); break;
            case 8: compare("delay(" + p + ")", clock.delay(p), model.delay(p)); break;
            case 9: n = wild(0, 60); what = below(4) - 1;
                compare("bestRing(" + p + ", " + n + ", " + what + ")", clock.bestRing(p, n, what),
                    model.bestRing(p, n, what)); break;
            case 10: compare("near(" + bound + ")", clock.near(bound), model.near(bound)); break;
            case 11: compare("liars(" + bound + ")", clock.liars(bound), model.liars(bound)); break;
            case 12: compare("median()", clock.median(), model.median()); break;
            case 13: compare("agree(" + bound + ")", clock.agree(bound), model.agree(bound)); break;
            case 14: compare("needs(" + m + ")", clock.needs(m), model.needs(m)); break;
            case 15: compare("certain()", clock.certain(), model.certain()); break;
            case 16: compare("latest()", clock.latest(), model.latest()); break;
            case 17: compare("rests(" + p + ", " + q + ")", clock.rests(p, q), model.rests(p, q)); break;
            case 18: int k = below(6) - 1;
                compare("rest(" + p + ", " + q + ", " + k + ")", clock.rest(p, q, k), model.rest(p, q, k)); break;
            default: compare("apart(" + p + ", " + q + ")", clock.apart(p, q), model.apart(p, q)); break;
        }
    }

    private void compareMan(int p, int what) {
        int got;
        int due;
        try {
            got = clock.man(p, what);
        } catch (IndexOutOfBoundsException e) {
            got = e.getClass() == IndexOutOfBoundsException.class ? -1001 : -1009;
        } catch (NoSuchElementException e) {
            got = -1002;
        }
        try {
            due = model.man(p, what);
        } catch (IndexOutOfBoundsException e) {
            due = -1001;
        } catch (NoSuchElementException e) {
            due = -1002;
        }
        compare("man(" + p + ", " + what + ")", got, due);
    }

    private void askMore(int which) {
        int p = man();
        int m = meeting();
        int n = wild(0, 200);
        int what = below(6) - below(2);
        switch (which) {
            case 0: compare("quiet()", clock.quiet(), model.quiet()); break;
            case 1: what = below(4) - 1;
                compare("firstMissed(" + what + ")", clock.firstMissed(what), model.firstMissed(what)); break;
            case 2: case 3: n = below(3) == 0 ? n : below(4);
                compare("longest(" + n + ")", clock.longest(n), model.longest(n)); break;
            case 4: n = below(22) - 1; compare("queue(" + n + ")", clock.queue(n), model.queue(n)); break;
            case 5: compare("there(" + p + ")", clock.there(p), model.there(p)); break;
            case 6: case 7: compare("rates(" + p + ")", clock.rates(p), model.rates(p)); break;
            case 8: case 9: int seed = below(3) == 0 ? random.nextInt() : below(1000);
                n = wild(1, 200);
                compare("chance(" + seed + ", " + n + ", " + m + ")", clock.chance(seed, n, m),
                    model.chance(seed, n, m)); break;
            case 10: case 11: case 12: int i = what == 2 ? p : below(20) == 0 ? 1 : 0;
                compare("tried(" + what + ", " + i + ", " + n + ")", clock.tried(what, i, n),
                    model.tried(what, i, n)); break;
            case 13: int letters = below(2) == 0 ? random.nextInt() : (1 + below(26)) << 25;
                compare("named(" + letters + ")", clock.named(letters), model.named(letters)); break;
            case 14: what = below(5) - 2; compare("fault(" + what + ")", clock.fault(what), model.fault(what)); break;
            case 15: compare("named(ann)", clock.named(1 << 25 | 14 << 20 | 14 << 15),
                    model.named(1 << 25 | 14 << 20 | 14 << 15)); break;
            default: what = below(16) - 1;
                compare("count(" + what + ")", clock.count(what), model.count(what)); break;
        }
    }
}
