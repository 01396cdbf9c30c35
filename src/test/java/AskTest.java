/** Promises 15 to 32: what comes, as it goes, and what is so now. */
public final class AskTest {
    private static final int NO_ANSWER = Integer.MIN_VALUE;

    public static void main(String[] args) {
        ahead();
        aheadChangesNothing();
        delay();
        bestRing();
        near();
        liars();
        median();
        agree();
        needs();
        certain();
        latest();
        rests();
        apart();
        quiet();
        firstMissed();
        longest();
        queue();
        there();
        Due.end();
    }

    private static void ahead() {
        SpeakClock c = Due.told(Due.THREE);
        Due.is("ahead(0, 2, 1)", c.ahead(0, 2, 1), -10);
        Due.is("ahead(4, 2, 1)", c.ahead(4, 2, 1), -10);
        Due.is("ahead(5, 2, 1)", c.ahead(5, 2, 1), -1);
        Due.is("ahead(10, 2, 1)", c.ahead(10, 2, 1), 0);
        Due.is("ahead(20, 0, 99)", c.ahead(20, 0, 99), 0);
        Due.is("ahead(21, 0, 99)", c.ahead(21, 0, 99), 1);
        Due.is("ahead(15, 1, -1)", c.ahead(15, 1, -1), 0);
        Due.is("ahead(16, 1, -1)", c.ahead(16, 1, -1), 1);
        Due.is("ahead(2, 3, -7)", c.ahead(2, 3, -7), 2);
        Due.is("ahead(200, 0, 0)", c.ahead(200, 0, 0), 1);
        Due.is("ahead(201, 0, 0)", c.ahead(201, 0, 0), NO_ANSWER);
        Due.is("ahead(-1, 0, 0)", c.ahead(-1, 0, 0), NO_ANSWER);
        Due.is("ahead(1, 4, 0)", c.ahead(1, 4, 0), NO_ANSWER);
        Due.is("ahead(1, -1, 0)", c.ahead(1, -1, 0), NO_ANSWER);
        Due.is("ahead(1, 2, 3)", c.ahead(1, 2, 3), NO_ANSWER);
        Due.is("ahead(1, 2, -1)", c.ahead(1, 2, -1), NO_ANSWER);
        c.go(21);
        Due.is("no more are kept", c.ahead(200, 0, 0), 0);
        Due.is("no more are missed", c.ahead(200, 1, 0), 0);
        // as it goes strangers ring from a crowd of 50 on
        Due.is("crowd 49", Due.told("crowd 49;").ahead(9, 3, 0), 0);
        Due.is("crowd 50", Due.told("crowd 50;").ahead(9, 3, 0), 4);
        Due.is("crowd 100", Due.told("crowd 100;").ahead(9, 3, 0), 4);
    }

    private static void aheadChangesNothing() {
        SpeakClock c = Due.told(Due.THREE + "crowd 60;seed 5;");
        SpeakClock d = Due.told(Due.THREE + "crowd 60;seed 5;");
        c.ahead(200, 0, 0);
        c.delay(2);
        c.bestRing(1, 60, 0);
        c.near(3);
        c.agree(0);
        c.needs(0);
        c.certain();
        c.quiet();
        c.firstMissed(0);
        c.longest(200);
        c.rates(1);
        c.chance(5, 200, 0);
        c.tried(4, 0, 200);
        c.go(37);
        d.go(37);
        for (int what = 0; what < 14; what++) {
            Due.is("count(" + what + ") though it was asked", c.count(what), d.count(what));
        }
        for (int man = 0; man < 3; man++) {
            for (int what = 0; what < 8; what++) {
                Due.is("man(" + man + ", " + what + ") though it was asked", c.man(man, what), d.man(man, what));
            }
        }
    }

    private static void delay() {
        SpeakClock c = Due.told(Due.THREE);
        Due.is("delay(0)", c.delay(0), 2);
        Due.is("delay(1)", c.delay(1), 3);
        Due.is("delay(2)", c.delay(2), 1);
        c.go(2);
        Due.is("delay(1), waiting: as it is", c.delay(1), 3);
        Due.is("delay(0), behind b and c", c.delay(0), 6);
        Due.is("delay(3)", c.delay(3), -1);
        Due.is("delay(-1)", c.delay(-1), -1);
        c = Due.told("man a 9 0 0 0;man b 9 0 0 0;man c 9 0 0 0;man d 9 0 0 0;man e 9 0 0 0;man f 9 0 0 0;law talk 20;");
        for (int man = 0; man < 5; man++) {
            c.ring(man);
        }
        Due.is("delay(4): 100 minutes", c.delay(4), -2);
        c.go(1);
        Due.is("delay(4): 99 minutes", c.delay(4), 99);
        Due.is("delay(5)", c.delay(5), -2);
    }

    private static void bestRing() {
        SpeakClock c = Due.told(Due.THREE);
        Due.is("bestRing(2, 5, 0)", c.bestRing(2, 5, 0), 0);
        c.go(2);
        // a would be behind b (3 minutes) and c (1): 6 minutes now, 2 from 4 minutes on
        Due.is("bestRing(0, 0, 1)", c.bestRing(0, 0, 1), 6);
        Due.is("bestRing(0, 3, 0)", c.bestRing(0, 3, 0), 3);
        Due.is("bestRing(0, 3, 1)", c.bestRing(0, 3, 1), 3);
        Due.is("bestRing(0, 60, 0)", c.bestRing(0, 60, 0), 4);
        Due.is("bestRing(0, 60, 1)", c.bestRing(0, 60, 1), 2);
        Due.is("bestRing(1, 2, 0): never idle", c.bestRing(1, 2, 0), -2);
        Due.is("bestRing(1, 2, 1): never idle", c.bestRing(1, 2, 1), -2);
        Due.is("bestRing(1, 3, 0)", c.bestRing(1, 3, 0), 3);
        Due.is("bestRing(3, 0, 0)", c.bestRing(3, 0, 0), -1);
        Due.is("bestRing(-1, 0, 0)", c.bestRing(-1, 0, 0), -1);
        Due.is("bestRing(0, 61, 0)", c.bestRing(0, 61, 0), -1);
        Due.is("bestRing(0, -1, 0)", c.bestRing(0, -1, 0), -1);
        Due.is("bestRing(0, 0, 2)", c.bestRing(0, 0, 2), -1);
        Due.is("bestRing(0, 0, -1)", c.bestRing(0, 0, -1), -1);
        c = Due.told("man a 5 0 0 0;man b 3 0 0 0;ring b 0;");
        Due.is("by ring() ahead of b", c.bestRing(0, 9, 1), 5);
        Due.is("at once", c.bestRing(0, 9, 0), 0);
        c = Due.told("man a 1 0 0 0;man b 9 0 0 0;man c 9 0 0 0;man d 9 0 0 0;man e 9 0 0 0;man f 9 0 0 0;"
                + "law talk (talks=9)*18+1+(talks=1)*3;crowd 49;");
        for (int man = 1; man < 6; man++) {
            c.ring(man);
        }
        Due.is("told in 99 minutes", c.bestRing(0, 0, 1), 99);
        SpeakClock d = Due.told("man a 1 0 0 0;man b 9 0 0 0;man c 9 0 0 0;man d 9 0 0 0;man e 9 0 0 0;man f 9 0 0 0;"
                + "law talk (talks=9)*18+1+(talks=1)*4;");
        for (int man = 1; man < 6; man++) {
            d.ring(man);
        }
        Due.is("not told in 99 minutes", d.bestRing(0, 0, 1), -2);
    }

    private static void near() {
        SpeakClock c = Due.told("man a 1 0 10 0;man b 1 0 0 0;man c 1 0 -10 0;");
        Due.is("near(20)", c.near(20), 0);
        // by ringing alone one comes to 0
        Due.is("near(19)", c.near(19), 1);
        Due.is("near(10)", c.near(10), 1);
        // a rings first and comes to 0, c behind it to -1
        Due.is("near(1)", c.near(1), 5);
        Due.is("near(0)", c.near(0), -2);
        Due.is("near(61)", c.near(61), -1);
        Due.is("near(-1)", c.near(-1), -1);
        c = Due.told("man a 1 0 30 9;man b 1 0 -30 -9;");
        Due.is("near(60): 168 apart behind 60", c.near(60), -2);
        c = Due.told("man a 1 0 30 0;man b 1 0 -30 0;ring b 59;");
        Due.is("near(30): b rings in minute 59", c.near(30), 0);
        c = Due.told("man a 1 0 30 0;man b 1 0 -30 0;ring b 60;");
        Due.is("near(30): b rings too late", c.near(30), 1);
        Due.is("near of nobody", new SpeakClock().near(0), 0);
    }

    private static void liars() {
        SpeakClock c = Due.told("man a 1 0 10 0;man b 1 0 0 0;man c 1 0 -10 0;man d 1 0 1 0;");
        Due.is("liars(20)", c.liars(20), 0);
        Due.is("liars(19)", c.liars(19), 1);
        Due.is("liars(11)", c.liars(11), 1);
        Due.is("liars(10)", c.liars(10), 4);
        Due.is("liars(9)", c.liars(9), 5);
        Due.is("liars(1)", c.liars(1), 5);
        Due.is("liars(0)", c.liars(0), 7);
        Due.is("liars(60)", c.liars(60), 0);
        Due.is("liars(61)", c.liars(61), -1);
        Due.is("liars(-1)", c.liars(-1), -1);
        c.set(0, -99);
        Due.is("liars(60) of 109 apart", c.liars(60), 1);
    }

    private static void median() {
        SpeakClock c = Due.told("man a 1 0 10 0;man b 1 0 0 0;man c 1 0 -10 0;man d 1 0 0 0;");
        Due.is("median of four: the third", c.median(), 3);
        c.set(3, -1);
        Due.is("median of four", c.median(), 1);
        c = Due.told("man a 1 0 10 0;");
        Due.is("median of one", c.median(), 0);
        c = Due.told("man a 1 0 10 0;man b 1 0 9 0;");
        Due.is("median of two: the second", c.median(), 0);
        Due.is("median of none", new SpeakClock().median(), -1);
    }

    private static void agree() {
        SpeakClock c = Due.told(Due.THREE);
        Due.is("agree(30)", c.agree(30), 0);
        Due.is("agree(29)", c.agree(29), 5);
        Due.is("agree(2)", c.agree(2), 6);
        Due.is("agree(1)", c.agree(1), -2);
        Due.is("agree(60)", c.agree(60), 0);
        Due.is("agree(61)", c.agree(61), -1);
        Due.is("agree(-1)", c.agree(-1), -1);
        c = Due.told("man a 1 0 0 9;man b 1 0 0 0;ring b 199;");
        c.set(0, -81);
        Due.is("agree(0) in 90", c.agree(0), 90);
        Due.is("agree(8)", c.agree(8), 90);
        Due.is("agree(9)", c.agree(9), 80);
        c.set(0, -90);
        Due.is("agree(0) would be in 100", c.agree(0), -2);
        c.go(1);
        Due.is("agree(0) in 99", c.agree(0), 99);
    }

    private static void needs() {
        SpeakClock c = Due.told(Due.THREE);
        Due.is("needs(0)", c.needs(0), 0);
        Due.is("needs(1): c is there at once, up to 20", c.needs(1), -2);
        Due.is("needs(2)", c.needs(2), -1);
        Due.is("needs(-1)", c.needs(-1), -1);
        c.go(1);
        Due.is("needs(1), c is there", c.needs(1), -1);
        // b comes six minutes ahead of a, but for times that it doesn't show till it is told in minute 10
        c = Due.told("man a 1 5 0 0;man b 1 5 6 0;ring b 10;meet a b 6;");
        Due.is("needs(0): at 16", c.needs(0), 10);
        c = Due.told("man a 1 5 0 0;man b 1 5 6 0;meet a b 6;");
        Due.is("needs(0): never", c.needs(0), -2);
        c = Due.told("man a 1 5 0 0;man b 1 5 0 0;meet a b 199;");
        Due.is("needs(0): within 200", c.needs(0), 0);
        c.putOff(0, 200);
        Due.is("needs(0): in the 201st", c.needs(0), -2);
        c = Due.told("man a 1 4 0 0;man b 1 4 6 0;ring b 60;meet a b 5;");
        Due.is("needs(0): 61", c.needs(0), -2);
        c.putOff(0, 6);
        Due.is("needs(0): 60", c.needs(0), 60);
    }

    private static void certain() {
        SpeakClock c = Due.told(Due.THREE);
        Due.is("certain()", c.certain(), 1);
        c.go(21);
        Due.is("certain() of what is kept", c.certain(), 1);
        c = Due.told("man a 1 5 0 0;man b 1 5 0 0;meet a b 199;meet a b 200;meet b a 0;");
        Due.is("certain() in 200", c.certain(), 5);
        c.go(1);
        Due.is("certain() in 201", c.certain(), 7);
        Due.is("certain() of nobody", new SpeakClock().certain(), 0);
    }

    private static void latest() {
        SpeakClock c = Due.told("man a 1 0 3 0;man b 1 0 0 0;man c 1 0 0 0;");
        Due.is("latest()", c.latest(), 1);
        c.set(2, -1);
        Due.is("latest() when c is slower", c.latest(), 2);
        c.set(0, -1);
        Due.is("latest(), the first of several", c.latest(), 0);
        Due.is("latest() of nobody", new SpeakClock().latest(), -1);
    }

    private static void rests() {
        SpeakClock c = Due.told("man a 2 5 0 0;man b 3 5 0 0;man c 1 5 0 0;man d 5 5 0 0;man e 2 5 0 0;");
        Due.is("rests(0, 1)", c.rests(0, 1), 0);
        Due.is("rests(0, 2)", c.rests(0, 2), 2);
        Due.is("rest(0, 2, 0)", c.rest(0, 2, 0), 32);
        Due.is("rest(0, 2, 1)", c.rest(0, 2, 1), 33);
        Due.is("rest(0, 2, 2)", c.rest(0, 2, 2), -2);
        Due.is("rest(2, 0, 0)", c.rest(2, 0, 0), 23);
        Due.is("rest(2, 0, 1)", c.rest(2, 0, 1), 33);
        Due.is("rests(2, 3)", c.rests(2, 3), 3);
        Due.is("rest(2, 3, 0)", c.rest(2, 3, 0), 11);
        Due.is("rest(2, 3, 2)", c.rest(2, 3, 2), 31);
        Due.is("rest(3, 2, 2)", c.rest(3, 2, 2), 13);
        Due.is("rests(0, 4): of like ones", c.rests(0, 4), 1);
        Due.is("rest(0, 4, 0)", c.rest(0, 4, 0), 44);
        Due.is("rest(0, 1, 0)", c.rest(0, 1, 0), -2);
        Due.is("rest(0, 2, -1)", c.rest(0, 2, -1), -1);
        Due.is("rest(0, 0, 0)", c.rest(0, 0, 0), -1);
        Due.is("rest(5, 0, 0)", c.rest(5, 0, 0), -1);
        Due.is("rest(0, -1, 0)", c.rest(0, -1, 0), -1);
        Due.is("rests(1, 1)", c.rests(1, 1), -1);
        Due.is("rests(0, 5)", c.rests(0, 5), -1);
        Due.is("rests(-1, 0)", c.rests(-1, 0), -1);
    }

    private static void apart() {
        SpeakClock c = Due.told(Due.THREE);
        Due.is("apart(0, 2)", c.apart(0, 2), 20);
        Due.is("apart(2, 1)", c.apart(2, 1), 30);
        Due.is("apart(1, 1)", c.apart(1, 1), 0);
        Due.is("apart(0, 3)", c.apart(0, 3), -1);
        Due.is("apart(-1, 0)", c.apart(-1, 0), -1);
    }

    private static void quiet() {
        SpeakClock c = Due.told(Due.THREE);
        Due.is("quiet()", c.quiet(), 0);
        c.go(1);
        Due.is("quiet() of six minutes", c.quiet(), 5);
        c.go(5);
        Due.is("quiet() again", c.quiet(), 0);
        c.ring(1);
        Due.is("quiet() when b rings", c.quiet(), 3);
        c = Due.told("man a 9 0 0 0;crowd 50;");
        c.ring(0);
        Due.is("never quiet", c.quiet(), -2);
        c = Due.told("man a 9 0 0 0;man b 9 0 0 0;man c 9 0 0 0;man d 9 0 0 0;man e 9 0 0 0;man f 9 0 0 0;law talk 20;"
                + "ring a 100;ring b 100;ring c 100;ring d 100;");
        for (int man = 0; man < 6; man++) {
            c.ring(man);
        }
        // six calls of twenty minutes, then those of a, b, c and d once more
        Due.is("quiet() in 200", c.quiet(), 200);
        c = Due.told("man a 9 0 0 0;man b 9 0 0 0;man c 9 0 0 0;man d 9 0 0 0;man e 9 0 0 0;man f 9 0 0 0;law talk 20;"
                + "ring a 100;ring b 100;ring c 100;ring d 100;ring a 199;ring e 199;");
        for (int man = 0; man < 6; man++) {
            c.ring(man);
        }
        Due.is("quiet() not in 200", c.quiet(), -2);
    }

    private static void firstMissed() {
        SpeakClock c = Due.told(Due.THREE);
        Due.is("firstMissed(0)", c.firstMissed(0), 16);
        Due.is("firstMissed(1)", c.firstMissed(1), 1);
        c.go(15);
        Due.is("firstMissed(0): this one", c.firstMissed(0), 1);
        c.go(1);
        Due.is("firstMissed(0): none any more", c.firstMissed(0), -2);
        Due.is("firstMissed(1): none any more", c.firstMissed(1), -2);
        Due.is("firstMissed(2)", c.firstMissed(2), -1);
        Due.is("firstMissed(-1)", c.firstMissed(-1), -1);
        c = Due.told("man a 1 0 0 0;man b 1 0 5 0;meet a b 199;meet b a 199;meet a b 10;");
        Due.is("firstMissed(1)", c.firstMissed(1), 2);
        c.go(11);
        Due.is("firstMissed(0) of two", c.firstMissed(0), 189);
        Due.is("firstMissed(1) of two", c.firstMissed(1), 0);
        c = Due.told("man a 1 0 0 0;man b 1 0 5 0;meet a b 200;");
        Due.is("firstMissed(0) in 201", c.firstMissed(0), -2);
        c.go(1);
        Due.is("firstMissed(0) in 200", c.firstMissed(0), 200);
    }

    private static void longest() {
        SpeakClock c = Due.told(Due.THREE);
        Due.is("longest(0)", c.longest(0), 0);
        Due.is("longest(1)", c.longest(1), 1);
        Due.is("longest(200)", c.longest(200), 2);
        Due.is("longest(201)", c.longest(201), -1);
        Due.is("longest(-1)", c.longest(-1), -1);
        c.go(6);
        c.ring(0);
        c.ring(1);
        c.ring(2);
        Due.is("longest(0) now", c.longest(0), 3);
        Due.is("longest(1): now is looked at, too", c.longest(1), 3);
        Due.is("longest(200): now is looked at, too", c.longest(200), 3);
        c.go(1);
        Due.is("longest(1): no longer what was ahead of now", c.longest(1), 2);
    }

    private static void queue() {
        SpeakClock c = Due.told("man a 9 0 0 0;man b 9 0 0 0;crowd 100;");
        c.ring(1);
        c.go(2);
        c.ring(0);
        Due.is("queue(0): a stranger", c.queue(0), -2);
        Due.is("queue(1): a stranger", c.queue(1), -2);
        Due.is("queue(2)", c.queue(2), 0);
        Due.is("queue(3)", c.queue(3), -1);
        Due.is("queue(-1)", c.queue(-1), -1);
        Due.is("queue(MAX)", c.queue(Integer.MAX_VALUE), -1);
    }

    private static void there() {
        SpeakClock c = Due.told(Due.THREE);
        Due.is("there(2) at first", c.there(2), 0);
        c.go(1);
        Due.is("there(2)", c.there(2), 2);
        Due.is("there(0)", c.there(0), 0);
        c.go(20);
        Due.is("there(0) at both", c.there(0), 3);
        Due.is("there(1)", c.there(1), 1);
        Due.is("there(3)", c.there(3), -1);
        Due.is("there(-1)", c.there(-1), -1);
    }
}
