/** The edges that '==== 3' and promises 15 to 32 name: of each sentence its own test. */
public final class AskEdgesTest {
    private static final int MIN = Integer.MIN_VALUE;
    private static final int MAX = Integer.MAX_VALUE;
    private static final String AB = "man a 1 0 0 0;man b 1 0 0 0;";
    /** Six whose calls are 20 minutes each, but those of a, which are as many as the law tells of 1. */
    private static final String SIX = "man a 1 0 0 0;man b 9 0 0 0;man c 9 0 0 0;man d 9 0 0 0;man e 9 0 0 0;man f 9 0 0 0;";

    public static void main(String[] args) {
        asItGoes();
        oneBehindAnother();
        withoutNumbers();
        ahead();
        aheadIsRefused();
        delay();
        delayIfRefused();
        bestRing();
        bestRingOfSeveral();
        bestRingIsRefused();
        near();
        nearOfSeveral();
        nearIfRefused();
        liars();
        median();
        agree();
        needs();
        needsWithin200();
        needsIsRefused();
        certain();
        latest();
        rests();
        restsAreRefused();
        apart();
        quiet();
        firstMissed();
        longest();
        queue();
        there();
        Due.end();
    }

    private static void asItGoes() {
        Due.by("==== 2: AS IT GOES: a stranger RINGS, if crowd is 50 at least");
        int[][] due = {{0, 0}, {1, 0}, {49, 0}, {50, 5}, {51, 5}, {99, 5}, {100, 5}};
        for (int[] one : due) {
            for (int seed = 0; seed < 3; seed++) {
                SpeakClock c = Due.told("crowd " + one[0] + ";seed " + seed + ";");
                Due.is("queue behind 10 minutes of crowd " + one[0], c.ahead(10, 3, 0), one[1]);
            }
        }
        Due.by("==== 3: AHEAD, DELAY and their like leave all as it was");
        SpeakClock asked = Look.full();
        SpeakClock not = Look.full();
        for (int man = 0; man < 3; man++) {
            asked.delay(man);
            asked.bestRing(man, 60, 0);
            asked.rates(man);
            asked.ahead(200, 2, man);
            asked.needs(man);
            asked.chance(man, 200, man);
            asked.tried(man, 0, 200);
        }
        asked.tried(2, 1, 200);
        asked.tried(3, 0, 200);
        asked.tried(4, 0, 200);
        asked.near(5);
        asked.agree(5);
        asked.longest(200);
        asked.firstMissed(0);
        Due.is("all it answers", Look.at(asked), Look.at(not));
        Due.is("all it answers then", Look.andThen(asked), Look.andThen(not));
    }

    /** All that is asked as it goes, in one number. */
    private static long ask(SpeakClock c, int which) {
        switch (which) {
            case 0: return c.ahead(60, 0, 0) * 1000L + c.ahead(60, 1, 0) * 100L + c.ahead(60, 3, 0);
            case 1: return c.ahead(60, 2, 1);
            case 2: return c.delay(0);
            case 3: return c.bestRing(0, 60, 1) * 100L + c.bestRing(0, 60, 0);
            case 4: return c.near(4);
            case 5: return c.agree(3);
            case 6: return c.needs(0);
            case 7: return c.certain();
            case 8: return c.quiet();
            case 9: return c.firstMissed(0);
            case 10: return c.longest(60);
            case 11: return c.rates(0);
            case 12: return c.tried(0, 0, 60);
            case 13: return c.tried(1, 0, 60);
            case 14: return c.tried(2, 1, 60);
            case 15: return c.tried(3, 0, 60);
            case 16: return c.tried(4, 0, 60);
            case 17: return c.chance(5, 60, 0);
            case 18: return c.law(0, 0);
            case 19: return c.law(2, 1);
            default: return c.go(0);
        }
    }

    private static void oneBehindAnother() {
        Due.by("==== 3: as it goes: what was asked or went by just ahead doesn't matter");
        for (int crowd : new int[] {40, 60}) {
            String text = "man a 3 4 0 1;man b 2 3 5 -1;ring a 3;ring b 4;ring a 20;ring b 40;meet a b 30;meet b a 55;"
                    + "cold 2 30;seed 3;law talk talks+waits/2;law drift rate;crowd " + crowd + ";";
            for (int first = 0; first <= 20; first++) {
                for (int second = 0; second <= 20; second++) {
                    SpeakClock alone = Due.told(text);
                    SpeakClock behind = Due.told(text);
                    alone.see(25, 0, 26, true);
                    behind.see(25, 0, 26, true);
                    ask(behind, first);
                    Due.is(second + " behind " + first + ", crowd " + crowd, ask(behind, second), ask(alone, second));
                }
            }
        }
    }

    /** With numbers some of these seeds would bring a stranger in minute 0, and some none. */
    private static void withoutNumbers() {
        Due.by("==== 2: AS IT GOES: without numbers");
        for (int seed = 0; seed < 20; seed++) {
            String text = "man a 1 0 0 0;man b 1 0 1 0;ring a 1;meet a b 3;law talk 2-(minute>=1);seed " + seed + ";";
            SpeakClock none = Due.told(text + "crowd 49;");
            SpeakClock each = Due.told(text + "crowd 50;");
            Due.is("the best ring without strangers", none.bestRing(0, 1, 0) * 10 + none.bestRing(0, 1, 1), 11);
            Due.is("the best ring with strangers", each.bestRing(0, 1, 0) * 10 + each.bestRing(0, 1, 1), 2);
            Due.is("queue without strangers", none.longest(200), 0);
            Due.is("queue with strangers", each.ahead(10, 3, 0), 5);
            Due.is("quiet without strangers", none.quiet(), 0);
        }
    }

    private static void ahead() {
        Due.by("Promise 15: AHEAD (n 0 .. 200), what 0 KEPT, 1 MISSED, 2 OFF of a PERSON, 3 the QUEUE");
        SpeakClock c = Due.told(Due.THREE);
        SpeakClock goes = Due.told(Due.THREE);
        for (int n = 0; n <= 200; n++) {
            String call = "ahead(" + n + ", ..)";
            if (n <= 25 || n > 195) {
                Due.is(call + " kept", c.ahead(n, 0, 0), goes.count(8));
                Due.is(call + " missed", c.ahead(n, 1, 0), goes.count(9));
                Due.is(call + " queue", c.ahead(n, 3, 0), goes.count(5));
                for (int man = 0; man < 3; man++) {
                    Due.is(call + " off", c.ahead(n, 2, man), goes.man(man, 2));
                }
            }
            goes.go(1);
        }
        c = Due.told(Due.THREE);
        c.go(21);
        Due.is("KEPT more", c.ahead(200, 0, 0) * 100 + c.count(8), 1);
        Due.is("MISSED more", c.ahead(200, 1, 0) * 100 + c.count(9), 1);
        Due.by("Promise 15: else the PERSON isn't looked at");
        for (int man : new int[] {-1, 3, MAX, MIN}) {
            Due.is("ahead(5, 0, " + man + ")", c.ahead(5, 0, man), 0);
            Due.is("ahead(5, 1, " + man + ")", c.ahead(5, 1, man), 0);
            Due.is("ahead(5, 3, " + man + ")", c.ahead(5, 3, man), 0);
        }
    }

    private static void aheadIsRefused() {
        Due.by("Promise 15: Integer.MIN_VALUE: no such ones");
        SpeakClock c = Due.told(Due.THREE);
        for (int what = 0; what < 4; what++) {
            for (int n : new int[] {-1, 201, MAX, MIN}) {
                Due.is("ahead(" + n + ", " + what + ", 0)", c.ahead(n, what, 0), MIN);
            }
            Due.is("ahead(200, " + what + ", 0)", c.ahead(200, what, 0) == MIN, false);
            Due.is("ahead(0, " + what + ", 0)", c.ahead(0, what, 0) == MIN, false);
        }
        for (int what : new int[] {-1, 4, MAX, MIN}) {
            Due.is("ahead(1, " + what + ", 0)", c.ahead(1, what, 0), MIN);
        }
        for (int man : new int[] {-1, 3, 6, MAX, MIN}) {
            Due.is("ahead(1, 2, " + man + ")", c.ahead(1, 2, man), MIN);
        }
        Due.is("ahead(1, 2, 0) of nobody", new SpeakClock().ahead(1, 2, 0), MIN);
    }

    /** Calls of 20 minutes of b to f, one behind another, and then one of a of so many. */
    private static SpeakClock rowOfSix(int lastCall) {
        SpeakClock c = Due.told(SIX + "law talk (talks=9)*20+(talks=1)*" + lastCall + ";");
        for (int man = 1; man < 6; man++) {
            c.ring(man);
        }
        return c;
    }

    private static void delay() {
        Due.by("==== 3: DELAY: behind how many MINUTES as it goes, 99 at most, it is TOLD next, if it RINGS now by ring()");
        Due.is("at once", Due.told(AB).delay(0), 1);
        Due.is("nine minutes", Due.told("man a 9 0 0 0;").delay(0), 9);
        SpeakClock c = rowOfSix(1);
        Due.is("delay(4): 80", c.delay(4), 80);
        c.go(1);
        Due.is("delay(5): 99", c.delay(5), 99);
        Due.is("delay(0): 100", c.delay(0), -2);
        c.go(1);
        Due.is("delay(0): 99", c.delay(0), 99);
        c.go(97);
        Due.is("delay(0): 2", c.delay(0), 2);
        Due.by("Promise 16: -2: not by then");
        Due.is("delay(0): 101", rowOfSix(1).delay(0), -2);
        Due.is("delay(5): 100", rowOfSix(1).delay(5), -2);
        Due.by("Promise 16: NONE: no such PERSON");
        for (int man : new int[] {-1, 6, MAX, MIN}) {
            Due.is("delay(" + man + ")", c.delay(man), -1);
        }
        Due.is("delay(0) of nobody", new SpeakClock().delay(0), -1);
    }

    private static void delayIfRefused() {
        Due.by("==== 3: DELAY: if that is refused: as it is");
        SpeakClock c = Due.told("man a 3 0 0 0;man b 2 0 0 0;");
        c.ring(0);
        c.ring(1);
        Due.is("b waits", c.delay(1), 5);
        c.go(1);
        Due.is("a talks", c.delay(0), 2);
        c = Due.told("man a 1 0 0 0;ring a 45;crowd 100;");
        c.go(40);
        Due.is("20 in the queue", c.ring(0), -2);
        // a rings in 45, the last minute of a stranger's call, and 19 strangers of two minutes each are ahead then
        Due.is("a is told behind 20 strangers", c.delay(0), 5 + 1 + 38 + 1);
        c = Due.told("man a 1 0 0 0;crowd 100;");
        c.go(40);
        Due.is("20 in the queue, and a doesn't ring later", c.delay(0), -2);
    }

    private static void bestRing() {
        Due.by("==== 3: BEST RING: the MINUTE 0 .. n from now on");
        SpeakClock c = Due.told("man a 1 0 0 0;man b 9 0 0 0;");
        c.ring(1);
        for (int n = 0; n <= 11; n++) {
            Due.is("bestRing(0, " + n + ", 0)", c.bestRing(0, n, 0), Math.min(n, 9));
            Due.is("bestRing(0, " + n + ", 1)", c.bestRing(0, n, 1), Math.max(10 - n, 1));
        }
        c = Due.told("man a 1 0 0 0;law talk 2-(minute>=60);");
        Due.is("the greatest n", c.bestRing(0, 60, 0), 60);
        Due.is("one less", c.bestRing(0, 59, 0), 0);
        c = Due.told("man a 1 0 0 0;law talk 2-(minute>=61);");
        Due.is("not minute 61", c.bestRing(0, 60, 0), 0);
        Due.by("==== 3: BEST RING: by ring() ahead of (1)");
        c = Due.told("man a 1 0 0 0;man b 9 0 0 0;ring b 0;ring b 1;");
        Due.is("ahead of b, who rings now", c.bestRing(0, 5, 1), 1);
        c = Due.told("man a 2 0 0 0;man b 9 0 0 0;ring b 3;law talk talks-(minute=3);");
        Due.is("ahead of b, who rings in 3", c.bestRing(0, 5, 0), 3);
        Due.by("==== 3: BEST RING: TOLD in the fewest MINUTES from that one on (1 at least, 99 at most)");
        Due.is("1", Due.told(AB).bestRing(0, 0, 1), 1);
        Due.is("9", Due.told("man a 9 0 0 0;").bestRing(0, 60, 1), 9);
        c = rowOfSix(1);
        Due.is("101 now", c.bestRing(0, 0, 0), -2);
        Due.is("100 in a minute", c.bestRing(0, 1, 1), -2);
        Due.is("99 in two", c.bestRing(0, 2, 1), 99);
        Due.is("which is the minute 2", c.bestRing(0, 2, 0), 2);
    }

    private static void bestRingOfSeveral() {
        Due.by("==== 3: BEST RING: the first of several");
        SpeakClock c = Due.told("man a 5 0 0 0;man b 3 0 0 0;ring b 8;");
        Due.is("all alike", c.bestRing(0, 60, 0), 0);
        c = Due.told("man a 5 0 0 0;law talk 5-(minute>6)*2;");
        Due.is("alike from 7 on", c.bestRing(0, 60, 0), 7);
        Due.by("==== 3: BEST RING: only MINUTES at which that isn't refused then");
        c = Due.told("man a 5 0 0 0;man b 3 0 0 0;");
        c.ring(0);
        Due.is("waiting, then talking till the fifth", c.bestRing(0, 4, 0), -2);
        Due.is("idle in 5", c.bestRing(0, 5, 0), 5);
        Due.is("told in 5 minutes from it on", c.bestRing(0, 60, 1), 5);
        c = Due.told("man a 1 0 0 0;crowd 100;");
        c.go(40);
        Due.is("20 in the queue", c.bestRing(0, 0, 0), -2);
        Due.is("19 in it behind the next one", c.bestRing(0, 1, 0), 1);
    }

    private static void bestRingIsRefused() {
        Due.by("Promise 17: -2: at none it is TOLD within 99 MINUTES");
        Due.is("what 0", rowOfSix(1).bestRing(0, 1, 0), -2);
        Due.is("what 1", rowOfSix(1).bestRing(0, 1, 1), -2);
        Due.by("Promise 17: NONE: no such ones");
        SpeakClock c = Due.told(AB);
        for (int n : new int[] {-1, 61, MAX, MIN}) {
            Due.is("bestRing(0, " + n + ", 0)", c.bestRing(0, n, 0), -1);
        }
        for (int what : new int[] {-1, 2, MAX, MIN}) {
            Due.is("bestRing(0, 5, " + what + ")", c.bestRing(0, 5, what), -1);
        }
        for (int man : new int[] {-1, 2, 6, MAX, MIN}) {
            Due.is("bestRing(" + man + ", 5, 0)", c.bestRing(man, 5, 0), -1);
        }
        Due.is("bestRing(0, 5, 0) of nobody", new SpeakClock().bestRing(0, 5, 0), -1);
    }

    private static void near() {
        Due.by("==== 3: NEAR: no more than the bound apart");
        SpeakClock c = Due.told("man a 1 0 30 0;man b 1 0 -30 0;");
        Due.is("near(60): 60 apart", c.near(60), 0);
        Due.is("near(59): a rings", c.near(59), 1);
        Due.is("near(30): 30 apart then", c.near(30), 1);
        Due.is("near(29): both ring", c.near(29), 3);
        Due.is("near(1): one was ahead", c.near(1), 3);
        Due.is("near(0)", c.near(0), -2);
        Due.by("==== 3: NEAR: behind 60 MINUTES as it goes");
        Due.is("b rings in 59", Due.told("man a 1 0 30 0;man b 1 0 -30 0;ring b 59;").near(30), 0);
        Due.is("b rings in 60", Due.told("man a 1 0 30 0;man b 1 0 -30 0;ring b 60;").near(30), 1);
        Due.is("six drifts", Due.told("man a 1 0 0 5;man b 1 0 0 -5;").near(60), 0);
        Due.is("not five", Due.told("man a 1 0 0 5;man b 1 0 0 -5;").near(59), -2);
        Due.by("Promise 18: NEAR (0 .. 60; bits); NONE: no such bound");
        for (int bound : new int[] {-1, 61, MAX, MIN}) {
            Due.is("near(" + bound + ")", c.near(bound), -1);
        }
        Due.is("near(0) of nobody", new SpeakClock().near(0), 0);
        Due.is("near(0) of one", Due.told("man a 1 0 30 9;").near(0), 0);
        Due.by("Promise 18: -2: by none");
        Due.is("near(60)", Due.told("man a 1 0 30 9;man b 1 0 -30 -9;").near(60), -2);
    }

    private static void nearOfSeveral() {
        Due.by("==== 3: NEAR: the fewest PEOPLE, of several the least");
        SpeakClock c = Due.told("man a 1 0 10 0;man b 1 0 0 0;man c 1 0 10 0;law late 10;");
        Due.is("b alone, not a and c", c.near(0), 2);
        c = Due.told("man a 1 0 3 0;man b 1 0 -3 0;man c 1 0 0 0;");
        Due.is("a or b alone: a", c.near(3), 1);
        c = Due.told("man a 1 0 0 0;man b 1 0 -3 0;man c 1 0 3 0;");
        Due.is("b or c alone: b", c.near(3), 2);
        c = Due.told("man a 1 0 0 0;man b 1 0 5 0;man c 1 0 9 0;man d 1 0 -9 0;man e 1 0 9 0;man f 1 0 9 0;law late 0;");
        Due.is("all but a", c.near(0), 62);
        Due.is("c, d, e and f", c.near(5), 60);
        Due.by("==== 3: NEAR: by numbers");
        c = Due.told("man a 1 0 9 0;man b 1 0 9 0;man c 1 0 -1 0;");
        Due.is("a comes to 0, b behind it to -1", c.near(1), 3);
    }

    private static void nearIfRefused() {
        Due.by("==== 3: NEAR: refused ones: as they are");
        SpeakClock c = Due.told("man a 1 0 9 0;man b 1 0 9 0;");
        c.ring(0);
        Due.is("a waits, so b is enough", c.near(1), 2);
        Due.is("none is needed within 9", c.near(9), 0);
        c.ring(1);
        Due.is("both wait", c.near(1), 0);
        c = Due.told("man a 1 0 9 0;man b 1 0 -9 0;crowd 100;");
        c.go(40);
        Due.is("20 in the queue: none can ring", c.near(17), -2);
        Due.is("18 apart", c.near(18), 0);
        c = Due.told("man a 1 0 9 0;man b 1 0 -9 0;crowd 100;");
        c.go(38);
        // 38 minutes behind one is told with 19 ahead
        Due.is("19 in it: a comes to -19, ten from b", c.near(10), 1);
        Due.is("19 in it: there is no place for both", c.near(9), -2);
    }

    private static void liars() {
        Due.by("==== 3: LIARS: without whom all clocks SHOW no more than the bound apart now");
        SpeakClock c = Due.told("man a 1 0 30 0;man b 1 0 -30 0;");
        Due.is("liars(60)", c.liars(60), 0);
        Due.is("liars(59)", c.liars(59), 1);
        Due.is("liars(0)", c.liars(0), 1);
        Due.by("==== 3: LIARS: the fewest PEOPLE, of several the least");
        c = Due.told("man a 1 0 5 0;man b 1 0 5 0;man c 1 0 0 0;man d 1 0 -9 0;");
        Due.is("c and d, not a and b", c.liars(0), 12);
        Due.is("d alone", c.liars(5), 8);
        Due.is("a and b or d: d", c.liars(13), 8);
        Due.is("none", c.liars(14), 0);
        c = Due.told("man a 1 0 0 0;man b 1 0 1 0;man c 1 0 2 0;man d 1 0 3 0;man e 1 0 4 0;man f 1 0 5 0;");
        Due.is("five of six", c.liars(0), 31);
        Due.is("four of six", c.liars(1), 15);
        Due.is("one of six", c.liars(4), 1);
        Due.by("Promise 19: LIARS (0 .. 60; bits); NONE: no such bound");
        for (int bound : new int[] {-1, 61, MAX, MIN}) {
            Due.is("liars(" + bound + ")", c.liars(bound), -1);
        }
        Due.is("liars(0) of nobody", new SpeakClock().liars(0), 0);
        Due.is("liars(0) of one", Due.told("man a 1 0 9 0;").liars(0), 0);
    }

    private static void median() {
        Due.by("==== 3: MEDIAN: ahead of whom, by OFF, then by numbers, are half of all PEOPLE, cut");
        int[] ofFallingOff = {0, 0, 1, 1, 2, 2};
        int[] ofLikeOff = {0, 1, 1, 2, 2, 3};
        StringBuilder falling = new StringBuilder();
        StringBuilder alike = new StringBuilder();
        for (int i = 0; i < 6; i++) {
            falling.append("man ").append((char) ('a' + i)).append(" 1 0 ").append(-i).append(" 0;");
            alike.append("man ").append((char) ('a' + i)).append(" 1 0 7 0;");
            Due.is("of " + (i + 1) + ", the last one the slowest", Due.told(falling.toString()).median(), ofFallingOff[i]);
            Due.is("of " + (i + 1) + " alike", Due.told(alike.toString()).median(), ofLikeOff[i]);
        }
        Due.by("Promise 20: NONE: there are no PEOPLE");
        Due.is("median()", new SpeakClock().median(), -1);
    }

    private static void agree() {
        Due.by("==== 3: AGREE: 99 at most, no more than the bound apart (0: now)");
        SpeakClock c = Due.told("man a 1 0 30 0;man b 1 0 -30 0;");
        Due.is("agree(60): now", c.agree(60), 0);
        Due.is("agree(59): never", c.agree(59), -2);
        c = Due.told("man a 1 0 30 -9;man b 1 0 0 0;");
        Due.is("agree(30)", c.agree(30), 0);
        Due.is("agree(29)", c.agree(29), 10);
        Due.is("agree(21)", c.agree(21), 10);
        Due.is("agree(20)", c.agree(20), 20);
        Due.is("agree(3)", c.agree(3), 30);
        Due.is("agree(2): it goes by", c.agree(2), -2);
        c = Due.told("man a 1 0 0 0;man b 1 0 1 0;ring b 98;");
        Due.is("in 99", c.agree(0), 99);
        c = Due.told("man a 1 0 0 0;man b 1 0 1 0;ring b 99;");
        Due.is("in 100", c.agree(0), -2);
        c.go(1);
        Due.is("in 99 from now on", c.agree(0), 99);
        c.go(99);
        Due.is("now", c.agree(0), 0);
        Due.by("Promise 21: AGREE (0 .. 60); NONE: no such bound");
        for (int bound : new int[] {-1, 61, MAX, MIN}) {
            Due.is("agree(" + bound + ")", c.agree(bound), -1);
        }
        Due.is("agree(0) of nobody", new SpeakClock().agree(0), 0);
        Due.is("agree(0) of one", Due.told("man a 1 0 9 9;").agree(0), 0);
    }

    /** b comes so many minutes ahead of a, but to no time that it doesn't show till it is told. */
    private static SpeakClock early(int toldIn, int time) {
        return Due.told("man a 1 4 0 0;man b 1 4 6 0;ring b " + toldIn + ";meet a b " + time + ";");
    }

    private static void needs() {
        Due.by("==== 3: PUT OFF: how much later 0 .. 60 its TIME must be at least, so that it is KEPT");
        Due.is("0", Due.told(AB + "meet a b 9;").needs(0), 0);
        // b shows 6 + minute up to toldIn, then the minute alone
        Due.is("1", early(10, 15).needs(0), 1);
        Due.is("2", early(10, 14).needs(0), 2);
        Due.is("60", early(60, 6).needs(0), 60);
        Due.by("Promise 22: -2: by none");
        Due.is("61", early(60, 5).needs(0), -2);
        Due.is("never", Due.told("man a 1 4 0 0;man b 1 4 6 0;meet a b 6;").needs(0), -2);
    }

    private static void needsWithin200() {
        Due.by("==== 3: PUT OFF: KEPT within 200 MINUTES as it goes");
        SpeakClock c = Due.told(AB + "meet a b 199;");
        Due.is("in the last one", c.needs(0), 0);
        c = Due.told(AB + "meet a b 200;");
        Due.is("in the one behind", c.needs(0), -2);
        c.go(1);
        Due.is("a minute later", c.needs(0), 0);
        c.putOff(0, 999);
        c.set(0, 99);
        c.set(1, 99);
        Due.is("in minute 900", c.needs(0), -2);
        for (int i = 0; i < 4; i++) {
            c.go(200);
        }
        Due.is("in 99 minutes from 801 on", c.needs(0), 0);
    }

    private static void needsIsRefused() {
        Due.by("Promise 22: NONE: no such MEETING, one is THERE");
        SpeakClock c = Due.told(AB + "meet a b 9;meet b a 9;");
        for (int m : new int[] {-1, 2, 6, MAX, MIN}) {
            Due.is("needs(" + m + ")", c.needs(m), -1);
        }
        Due.is("needs(0) of none", new SpeakClock().needs(0), -1);
        c.set(0, 9);
        c.go(1);
        Due.is("the first one is there", c.needs(0), -1);
        Due.is("the second one is there", c.needs(1), -1);
        c.go(9);
        Due.is("both are, and missed", c.needs(0), -1);
        c = Due.told(AB + "meet a b 0;");
        c.go(1);
        Due.is("both are, and kept", c.needs(0), -1);
    }

    private static void certain() {
        Due.by("Promise 23: CERTAIN (bits): MEETINGS that are KEPT in 200 MINUTES as it goes, or are");
        SpeakClock c = Due.told(AB + "meet a b 199;meet a b 200;meet a b 0;meet a b 300;meet b a 1;meet b a 198;");
        Due.is("all but those at 200 and 300", c.certain(), 1 + 4 + 16 + 32);
        c.go(1);
        Due.is("one is kept, and the one at 200 comes", c.certain(), 1 + 2 + 4 + 16 + 32);
        c.go(199);
        Due.is("all", c.certain(), 63);
        Due.is("none", new SpeakClock().certain(), 0);
        Due.is("a missed one", Due.told("man a 1 0 0 0;man b 1 0 1 0;meet a b 9;").certain(), 0);
    }

    private static void latest() {
        Due.by("==== 3: LATEST: whose clock is slowest, the first of several");
        Due.is("the last one", Due.told("man a 1 0 1 0;man b 1 0 0 0;man c 1 0 -1 0;").latest(), 2);
        Due.is("the first one", Due.told("man a 1 0 -2 0;man b 1 0 0 0;man c 1 0 -1 0;").latest(), 0);
        Due.is("the first of two", Due.told("man a 1 0 1 0;man b 1 0 -1 0;man c 1 0 -1 0;").latest(), 1);
        Due.is("the first of all", Due.told("man a 1 0 30 0;man b 1 0 30 0;man c 1 0 30 0;").latest(), 0);
        Due.by("Promise 24: NONE: there are no PEOPLE");
        Due.is("latest()", new SpeakClock().latest(), -1);
    }

    private static int has(int own, int other) {
        int prize = own > other ? 6 : own == other ? 2 : 0;
        return prize - own / 4;
    }

    /** Whether no other of 1 .. 4 times would be more for the one who talks so often against so many minutes. */
    private static boolean isBest(int talks, int times, int other) {
        for (int otherwise = 1; otherwise <= 4; otherwise++) {
            if (has(otherwise * talks, other) > has(times * talks, other)) {
                return false;
            }
        }
        return true;
    }

    private static void rests() {
        Due.by("==== 3: TALK of two, A REST: neither would have more otherwise; by the first one's, then the second one's");
        for (int one = 1; one <= 9; one++) {
            for (int other = 1; other <= 9; other++) {
                SpeakClock c = Due.told("man a " + one + " 0 0 0;man b " + other + " 0 0 0;");
                int found = 0;
                for (int i = 1; i <= 4; i++) {
                    for (int j = 1; j <= 4; j++) {
                        if (isBest(one, i, j * other) && isBest(other, j, i * one)) {
                            Due.is("rest of " + one + " and " + other, c.rest(0, 1, found), 10 * i + j);
                            found++;
                        }
                    }
                }
                Due.is("rests of " + one + " and " + other, c.rests(0, 1), found);
            }
        }
        Due.by("Promise 26: -2: there are no so many");
        SpeakClock c = Due.told("man a 2 0 0 0;man b 3 0 0 0;man c 1 0 0 0;");
        Due.is("rests(0, 2)", c.rests(0, 2), 2);
        Due.is("rest(0, 2, 1), the last one", c.rest(0, 2, 1), 33);
        Due.is("rest(0, 2, 2)", c.rest(0, 2, 2), -2);
        Due.is("rest(0, 2, MAX)", c.rest(0, 2, MAX), -2);
        Due.is("rests(0, 1)", c.rests(0, 1), 0);
        Due.is("rest(0, 1, 0) of none", c.rest(0, 1, 0), -2);
    }

    private static void restsAreRefused() {
        SpeakClock c = Due.told(AB);
        Due.by("Promise 25: NONE: no such PEOPLE, alike");
        int[][] none = {{0, 0}, {1, 1}, {-1, 0}, {0, -1}, {2, 0}, {0, 2}, {MAX, 0}, {0, MIN}, {-1, -1}, {6, 7}};
        for (int[] two : none) {
            Due.is("rests(" + two[0] + ", " + two[1] + ")", c.rests(two[0], two[1]), -1);
        }
        Due.is("rests(0, 1) of nobody", new SpeakClock().rests(0, 1), -1);
        Due.by("Promise 26: NONE likewise, k is below 0");
        for (int[] two : none) {
            Due.is("rest(" + two[0] + ", " + two[1] + ", 0)", c.rest(two[0], two[1], 0), -1);
            Due.is("rest(" + two[0] + ", " + two[1] + ", 99)", c.rest(two[0], two[1], 99), -1);
        }
        Due.is("rest(0, 1, -1)", c.rest(0, 1, -1), -1);
        Due.is("rest(0, 1, MIN)", c.rest(0, 1, MIN), -1);
        Due.is("rest(0, 1, 0) is one", c.rest(0, 1, 0) > 0, true);
    }

    private static void apart() {
        Due.by("Promise 27: how far apart the clocks of two PEOPLE SHOW now");
        SpeakClock c = Due.told(AB);
        Due.is("alike", c.apart(0, 1), 0);
        c.set(0, 99);
        c.set(1, -99);
        Due.is("198", c.apart(0, 1), 198);
        Due.is("198 the other way", c.apart(1, 0), 198);
        Due.is("one and itself", c.apart(1, 1), 0);
        Due.by("Promise 27: NONE: no such PEOPLE");
        int[][] none = {{-1, 0}, {0, -1}, {2, 0}, {0, 2}, {2, 2}, {-1, -1}, {MAX, 0}, {0, MIN}};
        for (int[] two : none) {
            Due.is("apart(" + two[0] + ", " + two[1] + ")", c.apart(two[0], two[1]), -1);
        }
        Due.is("apart(0, 0) of nobody", new SpeakClock().apart(0, 0), -1);
    }

    private static void quiet() {
        Due.by("Promise 28: 200 at most, the QUEUE is empty and nobody TALKS (0: now); -2: not by then");
        SpeakClock c = Due.told("man a 2 0 0 0;man b 1 0 0 0;ring b 9;");
        Due.is("now, though b rings later", c.quiet(), 0);
        c.ring(0);
        Due.is("one waits", c.quiet(), 2);
        c.go(1);
        Due.is("one talks", c.quiet(), 1);
        c.go(1);
        Due.is("now", c.quiet(), 0);
        // calls of 20 minutes without an end: b, c, d, e and a in turn
        String calls = SIX + "law talk 20;ring b 79;ring c 79;ring d 79;ring e 79;ring a 79;";
        c = Due.told(calls);
        for (int man = 1; man < 6; man++) {
            c.ring(man);
        }
        Due.is("f 100, then b, c, d, a", c.quiet(), 200 - 20);
        c = Due.told(calls + "ring f 100;");
        for (int man = 1; man < 6; man++) {
            c.ring(man);
        }
        Due.is("and f once more", c.quiet(), 200);
        c = Due.told(calls + "ring f 100;ring b 199;");
        for (int man = 1; man < 6; man++) {
            c.ring(man);
        }
        Due.is("and b once more", c.quiet(), -2);
        c = Due.told("man a 2 0 0 0;crowd 50;");
        Due.is("now, though strangers come", c.quiet(), 0);
        c.ring(0);
        Due.is("strangers come always", c.quiet(), -2);
        Due.is("nobody", new SpeakClock().quiet(), 0);
    }

    private static void firstMissed() {
        Due.by("Promise 29: 200 at most (1: this one); -2: not by then");
        SpeakClock c = Due.told("man a 1 0 0 0;man b 1 0 1 0;meet a b 200;");
        Due.is("in 201", c.firstMissed(0) * 10 + c.firstMissed(1), -22);
        c.go(1);
        Due.is("in 200", c.firstMissed(0) * 10 + c.firstMissed(1), 2000);
        c.go(199);
        Due.is("this one", c.firstMissed(0) * 10 + c.firstMissed(1), 10);
        c.go(1);
        Due.is("it is missed already", c.firstMissed(0) * 10 + c.firstMissed(1), -22);
        Due.is("none", new SpeakClock().firstMissed(0), -2);
        Due.is("a kept one", Due.told(AB + "meet a b 5;").firstMissed(1), -2);
        Due.by("Promise 29: which one, the first of several");
        c = Due.told("man a 1 0 0 0;man b 1 0 1 0;meet a b 9;meet a b 5;meet b a 5;");
        Due.is("the second and the third one at once", c.firstMissed(0) * 10 + c.firstMissed(1), 61);
        c.go(6);
        Due.is("the first one then", c.firstMissed(0) * 10 + c.firstMissed(1), 40);
        Due.by("Promise 29: NONE for another what");
        for (int what : new int[] {-1, 2, MAX, MIN}) {
            Due.is("firstMissed(" + what + ")", c.firstMissed(what), -1);
        }
    }

    private static void longest() {
        Due.by("Promise 30: the longest QUEUE behind any of n MINUTES 0 .. 200 as it goes (0: that of now)");
        SpeakClock c = Due.told("man a 1 0 0 0;man b 1 0 0 0;man c 1 0 0 0;ring a 198;ring b 198;ring c 199;");
        Due.is("longest(0)", c.longest(0), 0);
        Due.is("longest(198)", c.longest(198), 0);
        Due.is("longest(199)", c.longest(199), 1);
        Due.is("longest(200)", c.longest(200), 1);
        c.ring(0);
        c.ring(1);
        Due.is("longest(0): that of now", c.longest(0), 2);
        Due.is("longest(1): now is one of them", c.longest(1), 2);
        Due.is("longest(200): now is one of them", c.longest(200), 2);
        c = Due.told("crowd 100;");
        for (int n = 0; n <= 38; n++) {
            Due.is("longest(" + n + ") of strangers", c.longest(n), n / 2);
        }
        Due.is("20 at most", c.longest(200), 20);
        Due.is("20 at most, longest(39)", c.longest(39), 19);
        Due.is("20 at most, longest(40)", c.longest(40), 20);
        Due.by("Promise 30: NONE: no such n");
        for (int n : new int[] {-1, 201, MAX, MIN}) {
            Due.is("longest(" + n + ")", c.longest(n), -1);
        }
        Due.is("longest(200) of nobody", new SpeakClock().longest(200), 0);
    }

    private static void queue() {
        Due.by("Promise 31: -2: a stranger; NONE: there are no so many, k is below 0");
        SpeakClock c = Due.told(AB + "crowd 100;");
        Due.is("queue(0), it is empty", c.queue(0), -1);
        c.go(38);
        c.ring(1);
        Due.is("queue(0)", c.queue(0), -2);
        Due.is("queue(18)", c.queue(18), -2);
        Due.is("queue(19), the last one", c.queue(19), 1);
        for (int k : new int[] {20, 21, MAX, -1, -2, MIN}) {
            Due.is("queue(" + k + ")", c.queue(k), -1);
        }
        c.go(1);
        Due.is("queue(19) when it is shorter", c.queue(19), -1);
        Due.is("queue(18) then", c.queue(18), 1);
    }

    private static void there() {
        Due.by("Promise 32: MEETINGS (bits) at which a PERSON is THERE");
        SpeakClock c = Due.told(AB + "man c 1 0 0 0;meet a b 0;meet b a 1;meet b c 0;meet c a 0;meet a b 300;meet c a 2;");
        Due.is("none yet", c.there(0), 0);
        c.go(1);
        Due.is("a", c.there(0), 1 + 8);
        Due.is("b", c.there(1), 1 + 4);
        Due.is("c", c.there(2), 4 + 8);
        c.go(2);
        Due.is("a two minutes later", c.there(0), 1 + 2 + 8 + 32);
        Due.is("b two minutes later", c.there(1), 1 + 2 + 4);
        Due.is("c two minutes later", c.there(2), 4 + 8 + 32);
        Due.by("Promise 32: NONE: no such PERSON");
        for (int man : new int[] {-1, 3, 6, MAX, MIN}) {
            Due.is("there(" + man + ")", c.there(man), -1);
        }
        Due.is("there(0) of nobody", new SpeakClock().there(0), -1);
    }
}
