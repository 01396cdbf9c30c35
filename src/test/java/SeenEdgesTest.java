/** The edges that '==== 3' and promises 33 to 38 name: of each sentence its own test. */
public final class SeenEdgesTest {
    private static final int MIN = Integer.MIN_VALUE;
    private static final int MAX = Integer.MAX_VALUE;
    private static final int ALL_RATES = 1023;
    private static final String AB = "man a 1 0 0 0;man b 1 0 0 0;";

    public static void main(String[] args) {
        see();
        seeIsRefused();
        twentyFour();
        atLeastOrLess();
        behindMinutes();
        fromTheTextOn();
        strike();
        strikeOfAStrike();
        known();
        knownIsRefused();
        rates();
        ratesOfAll();
        chance();
        chanceOfTenTimes();
        chanceWithoutNumbers();
        chanceIsRefused();
        tried();
        triedOtherwise();
        allWait30();
        triedIsRefused();
        Due.end();
    }

    private static void see() {
        Due.by("Promise 33: SEEN (MINUTES 1 .. 99, so much -200 .. 400): its number, from 0 on");
        SpeakClock c = Due.told(AB);
        Due.is("see(1, 0, -200, true)", c.see(1, 0, -200, true), 0);
        Due.is("see(99, 1, 400, false)", c.see(99, 1, 400, false), 1);
        Due.is("see(1, 1, 400, true)", c.see(1, 1, 400, true), 2);
        Due.is("see(99, 0, -200, false)", c.see(99, 0, -200, false), 3);
        Due.is("seen", c.count(11), 4);
    }

    private static void seeIsRefused() {
        Due.by("Promise 33: NONE: no such ones");
        SpeakClock c = Due.told(AB);
        for (int minutes : new int[] {0, -1, 100, MAX, MIN}) {
            Due.is("see(" + minutes + ", 0, 5, true)", c.see(minutes, 0, 5, true), -1);
        }
        for (int man : new int[] {-1, 2, 6, MAX, MIN}) {
            Due.is("see(1, " + man + ", 5, true)", c.see(1, man, 5, true), -1);
        }
        for (int shown : new int[] {-201, 401, MAX, MIN}) {
            Due.is("see(1, 0, " + shown + ", false)", c.see(1, 0, shown, false), -1);
        }
        Due.is("see(1, 0, 5, true) of nobody", new SpeakClock().see(1, 0, 5, true), -1);
        Due.is("none is seen", c.count(11), 0);
    }

    private static void twentyFour() {
        Due.by("Promise 33: NONE: there are 24");
        SpeakClock c = Due.told(AB);
        for (int i = 0; i < 24; i++) {
            Due.is("see", c.see(1, 0, 1, true), i);
        }
        Due.is("see a 25th", c.see(1, 0, 400, true), -1);
        Due.is("24", c.count(11), 24);
        Due.is("the 25th is none", c.rates(0), ALL_RATES);
        Due.by("Promise 34: NONE: there are 24");
        Due.is("strike", c.strike(0), -1);
        Due.is("24", c.count(11), 24);
        c = Due.told(AB);
        c.see(1, 0, 400, true);
        for (int i = 1; i < 24; i++) {
            Due.is("strike", c.strike(0), i);
        }
        Due.is("strike a 25th", c.strike(0), -1);
        Due.is("see a 25th", c.see(1, 0, 1, true), -1);
        Due.is("known(24)", c.known(24), true);
        Due.is("known(25)", c.known(25), false);
        Due.is("struck", c.rates(0), ALL_RATES);
        Due.tell(c, AB);
        Due.is("a new text leaves room", c.see(1, 0, 1, true), 0);
    }

    private static void atLeastOrLess() {
        Due.by("==== 3: SEEN: a clock SHOWED so much at least, or less");
        for (int shown = 4; shown <= 6; shown++) {
            SpeakClock c = Due.told(AB);
            c.see(5, 0, shown, true);
            Due.is("5 is " + shown + " at least", c.rates(1), shown <= 5 ? ALL_RATES : 0);
            c = Due.told(AB);
            c.see(5, 0, shown, false);
            Due.is("5 is less than " + shown, c.rates(1), shown > 5 ? ALL_RATES : 0);
        }
        SpeakClock c = Due.told(AB);
        c.see(1, 0, -200, true);
        c.see(99, 0, 400, false);
        Due.is("what is so of every clock", c.rates(0), ALL_RATES);
        c.see(1, 0, -200, false);
        Due.is("less than -200", c.rates(0), 0);
    }

    private static void behindMinutes() {
        Due.by("==== 3: SEEN: behind so many MINUTES 1 .. 99");
        int[] tellIn = {0, 97, 98, 99};
        for (int minute : tellIn) {
            SpeakClock c = Due.told("man a 1 0 5 0;man b 1 0 0 0;ring a " + minute + ";");
            c.see(99, 0, 104, false);
            Due.is("told in " + minute + ", seen behind 99", c.rates(1), minute < 99 ? ALL_RATES : 0);
        }
        SpeakClock c = Due.told("man a 1 0 5 0;man b 1 0 0 0;ring a 0;");
        c.see(1, 0, 6, false);
        Due.is("told in 0, seen behind 1", c.rates(1), ALL_RATES);
        c = Due.told("man a 1 0 5 0;man b 1 0 0 0;ring a 1;");
        c.see(1, 0, 6, false);
        Due.is("told in 1, seen behind 1", c.rates(1), 0);
        c = Due.told("man a 1 0 0 5;man b 1 0 0 0;");
        c.see(9, 0, 9, true);
        c.see(9, 0, 10, false);
        c.see(10, 0, 15, true);
        c.see(10, 0, 16, false);
        c.see(19, 0, 24, true);
        c.see(19, 0, 25, false);
        c.see(20, 0, 30, true);
        Due.is("drift behind ten", c.rates(1), ALL_RATES);
        c.see(20, 0, 30, false);
        Due.is("but not more", c.rates(1), 0);
    }

    private static void fromTheTextOn() {
        Due.by("==== 3: SEEN: as it goes from the TEXT on, nothing done by call");
        SpeakClock c = Due.told(AB + "ring a 5;");
        c.see(8, 0, 8, true);
        c.see(8, 0, 9, false);
        Due.is("ahead of all", c.rates(0), ALL_RATES);
        c.set(0, 50);
        Due.is("set", c.rates(0), ALL_RATES);
        c.ring(1);
        c.ring(0);
        Due.is("rung", c.rates(0), ALL_RATES);
        c.go(100);
        Due.is("a hundred minutes later", c.rates(0), ALL_RATES);
        for (int crowd : new int[] {49, 50}) {
            c = Due.told("man a 1 0 9 0;man b 1 0 0 0;ring a 3;crowd " + crowd + ";");
            c.see(5, 0, 14, false);
            c.see(4, 0, 13, false);
            // with strangers one talks in 0 and 1, one in 2 and 3, so that a waits in 3
            Due.is("strangers of " + crowd, c.rates(1), crowd < 50 ? ALL_RATES : 0);
        }
    }

    private static void strike() {
        Due.by("Promise 34: A STRIKE: its number; NONE: no such one SEEN");
        SpeakClock c = Due.told(AB);
        for (int number : new int[] {0, -1, 1, 23, 24, MAX, MIN}) {
            Due.is("strike(" + number + ") of none", c.strike(number), -1);
        }
        c.see(1, 0, 400, true);
        c.see(1, 0, 400, true);
        Due.is("strike(2) of two", c.strike(2), -1);
        Due.is("strike(-1) of two", c.strike(-1), -1);
        Due.is("two are seen", c.count(11), 2);
        Due.is("strike(1)", c.strike(1), 2);
        Due.is("one is left", c.rates(0), 0);
        Due.is("strike(0)", c.strike(0), 3);
        Due.is("none is left", c.rates(0), ALL_RATES);
        Due.is("strike(4) of four", c.strike(4), -1);
        Due.is("strike(3), a strike", c.strike(3), 4);
        Due.is("the first one is left", c.rates(0), 0);
    }

    private static void strikeOfAStrike() {
        Due.by("==== 3: a STRIKE may be STRUCK: then it doesn't count; asked from the last one on");
        SpeakClock c = Due.told(AB);
        c.see(1, 0, 400, true);
        for (int i = 1; i < 24; i++) {
            c.strike(i - 1);
            Due.is("each of " + i + " strikes the one ahead", c.rates(0), i % 2 == 0 ? 0 : ALL_RATES);
        }
        for (int n = 0; n <= 24; n++) {
            c.known(n);
            Due.is("known by " + n, c.rates(0), n % 2 == 1 ? 0 : ALL_RATES);
        }
        c = Due.told(AB);
        c.see(1, 0, 400, true);
        c.strike(0);
        c.strike(0);
        c.strike(1);
        Due.is("struck by two, one of them struck", c.rates(0), ALL_RATES);
        c.strike(2);
        Due.is("both of them struck", c.rates(0), 0);
        c.strike(3);
        Due.is("and the strike of the first one", c.rates(0), ALL_RATES);
    }

    private static void known() {
        Due.by("Promise 35: KNOWN by n from now on (-1: by all, also those to come): true");
        SpeakClock c = Due.told(AB);
        Due.is("known(0) of none", c.known(0), true);
        Due.is("known(-1) of none", c.known(-1), true);
        c.see(1, 0, 1, true);
        c.see(1, 0, 400, true);
        Due.is("known(1)", c.known(1), true);
        Due.is("by the first one", c.rates(0), ALL_RATES);
        Due.is("count(12)", c.count(12), 1);
        Due.is("known(2), all there are", c.known(2), true);
        Due.is("by both", c.rates(0), 0);
        c.strike(1);
        Due.is("not by one to come", c.rates(0), 0);
        Due.is("count(12)", c.count(12), 2);
        Due.is("known(-1)", c.known(-1), true);
        Due.is("by the strike, too", c.rates(0), ALL_RATES);
        c.strike(2);
        Due.is("and by one to come", c.rates(0), 0);
        Due.is("count(12)", c.count(12), 4);
        Due.is("known(0)", c.known(0), true);
        Due.is("by nothing", c.rates(0), ALL_RATES);
        Due.by("==== 3: KNOWN by n (all at first)");
        c = Due.told(AB);
        c.see(1, 0, 400, true);
        Due.is("all at first", c.rates(0), 0);
    }

    private static void knownIsRefused() {
        Due.by("Promise 35: false: no such n");
        SpeakClock c = Due.told(AB);
        Due.is("known(1) of none", c.known(1), false);
        c.see(1, 0, 400, true);
        c.see(1, 0, 400, true);
        c.known(0);
        for (int n : new int[] {3, 24, 25, -2, MAX, MIN}) {
            Due.is("known(" + n + ") of two", c.known(n), false);
            Due.is("still by 0", c.count(12), 0);
            Due.is("still by nothing", c.rates(0), ALL_RATES);
        }
        c.see(1, 0, 400, true);
        Due.is("known(3) of three", c.known(3), true);
    }

    private static void rates() {
        Due.by("==== 3: RATES: -4 .. 5 (bits 0 .. 9)");
        for (int rate = -6; rate <= 7; rate++) {
            SpeakClock c = Due.told(AB);
            c.see(10, 0, 10 + rate, true);
            c.see(10, 0, 11 + rate, false);
            Due.is("a rate of " + rate, c.rates(0), rate < -4 || rate > 5 ? 0 : 1 << rate + 4);
        }
        Due.is("nothing seen", Due.told(AB).rates(1), ALL_RATES);
        Due.by("==== 3: RATES: in place of its own");
        SpeakClock c = Due.told("man a 1 0 0 9;man b 1 0 0 0;");
        c.see(10, 0, 19, true);
        Due.is("its own would be so", c.rates(1), ALL_RATES);
        Due.is("but none of these", c.rates(0), 0);
        Due.by("Promise 36: NONE: no such PERSON");
        for (int man : new int[] {-1, 2, 6, MAX, MIN}) {
            Due.is("rates(" + man + ")", c.rates(man), -1);
        }
        Due.is("rates(0) of nobody", new SpeakClock().rates(0), -1);
    }

    private static void ratesOfAll() {
        Due.by("==== 3: RATES: by which all KNOWN ones are so");
        SpeakClock c = Due.told(AB);
        c.see(10, 0, 11, true);
        c.see(20, 0, 28, false);
        Due.is("1 at least, less than 4", c.rates(0), 0b0011100000);
        c.see(30, 0, 36, true);
        Due.is("2 at least", c.rates(0), 0b0011000000);
        c.see(99, 1, 100, true);
        Due.is("one of another's clock isn't so", c.rates(0), 0);
        Due.is("of b they aren't so", c.rates(1), 0);
        c.known(3);
        Due.is("that one isn't known", c.rates(0), 0b0011000000);
    }

    private static long next(long last) {
        return (last * 1103515245L + 12345L) % 2147483648L;
    }

    /** Kept in 0, if none rings then, so that a's call is one minute and a is told in it; else never. */
    private static String keptWithoutAStranger(int crowd) {
        return "man a 1 0 0 0;man b 1 0 10 0;ring a 0;meet a b 10;law talk 1+queue*19;law late 10;crowd " + crowd + ";";
    }

    private static void chance() {
        Due.by("Promise 37: numbers from a seed 0 .. 2147483647 on, n 1 .. 200");
        for (int crowd : new int[] {1, 30, 50, 99}) {
            SpeakClock c = Due.told(keptWithoutAStranger(crowd));
            for (int seed : new int[] {0, 1, 2, 99999, 100000, 1 << 30, MAX - 1, MAX}) {
                for (int n : new int[] {1, 2, 7, 200}) {
                    Due.is("chance(" + seed + ", " + n + ", 0) of crowd " + crowd, c.chance(seed, n, 0),
                            timesKept(seed, n, crowd));
                }
            }
        }
    }

    /** One behind another: each of the ten times goes on with the numbers behind those that were used. */
    private static int timesKept(int seed, int n, int crowd) {
        long last = seed;
        int kept = 0;
        for (int i = 0; i < 10; i++) {
            for (int minute = 0; minute < n; minute++) {
                last = next(last);
                if (minute == 0 && last / 65536 % 100 >= crowd) {
                    kept++;
                }
            }
        }
        return kept;
    }

    private static void chanceOfTenTimes() {
        Due.by("Promise 37: in how many of ten times a MEETING is KEPT then");
        SpeakClock c = Due.told(AB + "meet a b 0;meet a b 199;meet a b 200;meet a b 9;");
        c.set(1, 1);
        Due.is("in one minute, all ten", c.chance(5, 1, 0), 10);
        Due.is("missed", c.chance(5, 200, 3), 0);
        c.set(1, 0);
        Due.is("n 200, the last minute", c.chance(5, 200, 1), 10);
        Due.is("n 199, ahead of it", c.chance(5, 199, 1), 0);
        Due.is("n 200, behind it", c.chance(5, 200, 2), 0);
        c.go(1);
        Due.is("from now on", c.chance(5, 200, 2), 10);
        Due.is("kept already", c.chance(5, 1, 0), 10);
    }

    private static void chanceWithoutNumbers() {
        Due.by("Promise 37 and ==== 2: no number, if crowd is 0 or 100");
        SpeakClock none = Due.told(keptWithoutAStranger(0));
        SpeakClock all = Due.told(keptWithoutAStranger(100));
        for (int seed : new int[] {0, 1, 77, MAX}) {
            Due.is("none rings", none.chance(seed, 5, 0), 10);
            Due.is("one rings each minute", all.chance(seed, 5, 0), 0);
        }
        Due.by("Promise 37: the numbers of the MINUTES are as they were");
        SpeakClock asked = Due.told("crowd 50;seed 3;man a 1 0 0 0;man b 1 0 0 0;meet a b 9;");
        SpeakClock not = Due.told("crowd 50;seed 3;man a 1 0 0 0;man b 1 0 0 0;meet a b 9;");
        asked.chance(7, 200, 0);
        asked.go(50);
        not.go(50);
        Due.is("strangers", asked.count(10), not.count(10));
    }

    private static void chanceIsRefused() {
        Due.by("Promise 37: NONE: no such ones");
        SpeakClock c = Due.told(AB + "meet a b 0;");
        for (int seed : new int[] {-1, MIN}) {
            Due.is("chance(" + seed + ", 1, 0)", c.chance(seed, 1, 0), -1);
        }
        for (int n : new int[] {0, -1, 201, MAX, MIN}) {
            Due.is("chance(1, " + n + ", 0)", c.chance(1, n, 0), -1);
        }
        for (int m : new int[] {-1, 1, 6, MAX, MIN}) {
            Due.is("chance(1, 1, " + m + ")", c.chance(1, 1, m), -1);
        }
        Due.is("chance(1, 1, 0) of none", new SpeakClock().chance(1, 1, 0), -1);
    }

    private static void tried() {
        Due.by("==== 3: TRIED for n MINUTES as it goes: KEPT more (n 0 .. 200)");
        SpeakClock c = Due.told(AB + "meet a b 0;meet a b 199;meet a b 200;");
        for (int what = 0; what < 5; what++) {
            Due.is("tried(" + what + ", 0, 0)", c.tried(what, 0, 0), 0);
            Due.is("tried(" + what + ", 0, 1)", c.tried(what, 0, 1), 1);
            Due.is("tried(" + what + ", 0, 199)", c.tried(what, 0, 199), 1);
            Due.is("tried(" + what + ", 0, 200)", c.tried(what, 0, 200), 2);
        }
        c.go(1);
        for (int what = 0; what < 5; what++) {
            Due.is("tried(" + what + ", 0, 199), more than is kept", c.tried(what, 0, 199), 1);
            Due.is("tried(" + what + ", 0, 200), more than is kept", c.tried(what, 0, 200), 2);
        }
    }

    private static void triedOtherwise() {
        Due.by("==== 3: TRIED: 0 no crowd, 1 no cold, 2 PERSON i doesn't RING, 3 nothing drifts");
        SpeakClock c = Due.told(keptWithoutAStranger(50));
        int[] due = {1, 0, 0, 0, 0};
        for (int what = 0; what < 5; what++) {
            Due.is("crowd 50, tried(" + what + ", ..)", c.tried(what, 0, 9), due[what]);
        }
        Due.is("crowd 49, tried(1, 0, 9)", Due.told(keptWithoutAStranger(49)).tried(1, 0, 9), 1);
        c = Due.told("man a 1 0 0 0;man b 1 0 10 0;ring a 0;meet a b 10;law late 10;cold 0 0;");
        // in the cold a comes a minute behind b
        due = new int[] {0, 1, 0, 0, 1};
        for (int what = 0; what < 5; what++) {
            Due.is("a cold, tried(" + what + ", ..)", c.tried(what, 0, 9), due[what]);
        }
        c = Due.told("man a 1 0 10 0;man b 1 0 10 0;ring a 0;ring b 5;meet a b 10;");
        due = new int[] {0, 0, 1, 0, 0};
        for (int what = 0; what < 5; what++) {
            Due.is("a rings, tried(" + what + ", ..)", c.tried(what, 0, 9), due[what]);
        }
        Due.is("b rings later, tried(2, 1, 9)", c.tried(2, 1, 9), 0);
        c.ring(0);
        Due.is("a rang by call", c.tried(2, 0, 9), 0);
        c = Due.told("man a 1 0 0 0;man b 1 0 0 -1;meet a b 30;");
        due = new int[] {0, 0, 0, 1, 1};
        for (int what = 0; what < 5; what++) {
            Due.is("b drifts, tried(" + what + ", ..)", c.tried(what, 0, 99), due[what]);
        }
        c = Due.told("man a 1 0 0 0;man b 1 0 0 0;meet a b 30;law drift off-talks+minute*told;ring a 0;");
        Due.is("nothing drifts by a law, either", c.tried(3, 0, 31) * 10 + c.tried(0, 0, 31), 10);
    }

    private static void allWait30() {
        Due.by("==== 3: TRIED: 4 all WAIT 30");
        for (int apart : new int[] {29, 30, 31}) {
            SpeakClock c = Due.told(AB + "meet a b 60;");
            c.set(1, apart);
            Due.is(apart + " apart", c.tried(4, 0, 99), apart <= 30 ? 1 : 0);
            Due.is("else not", c.ahead(99, 0, 0), 0);
        }
        SpeakClock c = Due.told("man a 1 30 0 0;man b 1 30 0 0;meet a b 60;");
        c.set(1, 30);
        Due.is("who wait 30 already", c.tried(4, 0, 99) * 10 + c.ahead(99, 0, 0), 11);
        c.set(1, 31);
        Due.is("and 31", c.tried(4, 0, 99) * 10 + c.ahead(99, 0, 0), 0);
    }

    private static void triedIsRefused() {
        Due.by("Promise 38: NONE: no such ones (i 0 of all but 2)");
        SpeakClock c = Due.told(AB + "meet a b 0;");
        for (int what : new int[] {-1, 5, MAX, MIN}) {
            Due.is("tried(" + what + ", 0, 5)", c.tried(what, 0, 5), -1);
        }
        for (int what = 0; what < 5; what++) {
            for (int n : new int[] {-1, 201, MAX, MIN}) {
                Due.is("tried(" + what + ", 0, " + n + ")", c.tried(what, 0, n), -1);
            }
            for (int i : new int[] {-1, 1, MAX, MIN}) {
                Due.is("tried(" + what + ", " + i + ", 5)", c.tried(what, i, 5), what == 2 && i == 1 ? 1 : -1);
            }
        }
        Due.is("tried(2, 2, 5) of two", c.tried(2, 2, 5), -1);
        Due.is("tried(2, 0, 5) of nobody", new SpeakClock().tried(2, 0, 5), -1);
        Due.is("tried(3, 0, 5) of nobody", new SpeakClock().tried(3, 0, 5), 0);
    }
}
