/** Promises 33 to 38: what was seen of clocks, strangers by chance, what is tried otherwise. */
public final class SeenTest {
    private static final int ALL_RATES = 1023;

    public static void main(String[] args) {
        see();
        strike();
        known();
        rates();
        ratesOfAllPeople();
        ratesFromTheTextOn();
        chance();
        tried();
        triedOtherwise();
        Due.end();
    }

    private static void see() {
        SpeakClock c = Due.told(Due.THREE);
        Due.is("see(0, ..)", c.see(0, 0, 0, true), -1);
        Due.is("see(100, ..)", c.see(100, 0, 0, true), -1);
        Due.is("see of nobody", c.see(1, 3, 0, true), -1);
        Due.is("see of -1", c.see(1, -1, 0, true), -1);
        Due.is("see of -201", c.see(1, 0, -201, true), -1);
        Due.is("see of 401", c.see(1, 0, 401, true), -1);
        Due.is("none seen", c.count(11), 0);
        Due.is("see(1, 0, -200)", c.see(1, 0, -200, true), 0);
        Due.is("see(99, 2, 400)", c.see(99, 2, 400, false), 1);
        for (int i = 2; i < 24; i++) {
            Due.is("see " + i, c.see(1, 0, -200, true), i);
        }
        Due.is("a 25th", c.see(1, 0, -200, true), -1);
        Due.is("a strike as the 25th", c.strike(0), -1);
        Due.is("24 seen", c.count(11), 24);
    }

    private static void strike() {
        SpeakClock c = Due.told(Due.THREE);
        Due.is("strike(0) of none", c.strike(0), -1);
        c.see(1, 0, 400, true);
        Due.is("rates with what can't be", c.rates(0), 0);
        Due.is("strike(-1)", c.strike(-1), -1);
        Due.is("strike(1)", c.strike(1), -1);
        Due.is("strike(0)", c.strike(0), 1);
        Due.is("struck", c.rates(0), ALL_RATES);
        Due.is("the strike struck", c.strike(1), 2);
        Due.is("counts again", c.rates(0), 0);
        Due.is("and that one", c.strike(2), 3);
        Due.is("struck again", c.rates(0), ALL_RATES);
        Due.is("count(11)", c.count(11), 4);
        Due.is("a second strike", c.strike(0), 4);
        Due.is("strike that", c.strike(4), 5);
        Due.is("the first one holds", c.rates(0), ALL_RATES);
        c = Due.told(Due.THREE);
        c.see(1, 0, 400, true);
        c.see(1, 0, 400, true);
        Due.tell(c, Due.THREE);
        c.see(1, 0, 400, true);
        c.strike(0);
        Due.is("a strike is no sight", c.rates(0), ALL_RATES);
    }

    private static void known() {
        SpeakClock c = Due.told(Due.THREE);
        Due.is("known(0)", c.known(0), true);
        Due.is("known(1) of none", c.known(1), false);
        Due.is("known(-1)", c.known(-1), true);
        c.see(1, 0, 400, true);
        c.strike(0);
        c.strike(1);
        Due.is("known by all", c.count(12), 3);
        Due.is("known(2)", c.known(2), true);
        Due.is("by two", c.count(12), 2);
        Due.is("struck by the second", c.rates(0), ALL_RATES);
        c.known(1);
        Due.is("not struck by the first one", c.rates(0), 0);
        c.known(3);
        Due.is("the strike is struck", c.rates(0), 0);
        c.known(0);
        Due.is("nothing known", c.rates(0), ALL_RATES);
        Due.is("known(4)", c.known(4), false);
        Due.is("known(-2)", c.known(-2), false);
        Due.is("still by none", c.count(12), 0);
        c.known(3);
        c.strike(2);
        Due.is("by three, though there are four", c.rates(0), 0);
        Due.is("count(12)", c.count(12), 3);
        c.known(-1);
        Due.is("by all four", c.rates(0), ALL_RATES);
        Due.is("count(12) by all", c.count(12), 4);
        c.strike(3);
        Due.is("also by those to come", c.rates(0), 0);
    }

    private static void rates() {
        SpeakClock c = Due.told("man a 1 0 0 9;man b 1 0 0 3;");
        Due.is("rates(0) of nothing seen", c.rates(0), ALL_RATES);
        // behind 20 minutes two drifts: 20 and twice the rate
        c.see(20, 0, 24, true);
        Due.is("2 at least", c.rates(0), 0b1111000000);
        c.see(20, 0, 29, false);
        Due.is("4 at most", c.rates(0), 0b0111000000);
        c.see(9, 0, 9, true);
        c.see(9, 0, 10, false);
        Due.is("no drift yet", c.rates(0), 0b0111000000);
        c.see(99, 0, 99 + 27, true);
        Due.is("nine drifts", c.rates(0), 0b0110000000);
        c.see(30, 0, 39, false);
        Due.is("too much", c.rates(0), 0);
        Due.is("rates(2)", c.rates(2), -1);
        Due.is("rates(-1)", c.rates(-1), -1);
        c = Due.told("man a 1 0 0 9;law drift rate*2;");
        c.see(10, 0, 16, true);
        Due.is("rate of a law", c.rates(0), 0b1110000000);
        c = Due.told("man a 1 0 0 0;ring a 9;crowd 49;");
        c.see(9, 0, 9, true);
        c.see(10, 0, 11, true);
        Due.is("without strangers below 50", c.rates(0), 0b1111100000);
    }

    private static void ratesOfAllPeople() {
        SpeakClock c = Due.told("man a 1 0 0 9;man b 1 0 0 3;");
        c.see(20, 1, 26, true);
        Due.is("b's own rate is so", c.rates(0), ALL_RATES);
        Due.is("b's rates", c.rates(1), 0b1110000000);
        c.see(20, 1, 27, true);
        Due.is("b's own rate isn't so", c.rates(0), 0);
        Due.is("b's rates but 3", c.rates(1), 0b1100000000);
    }

    private static void ratesFromTheTextOn() {
        SpeakClock c = Due.told("man a 1 0 0 1;man b 1 0 0 3;ring a 15;crowd 49;");
        c.see(20, 0, 23, true);
        Due.is("told in minute 15", c.rates(0), 0b1110000000);
        c.set(0, 50);
        c.go(33);
        c.keep();
        c.set(0, -50);
        c.ring(0);
        Due.is("nothing done by call", c.rates(0), 0b1110000000);
        c.back();
        Due.is("what was seen is not in the image", c.count(11), 1);
    }

    private static void chance() {
        SpeakClock c = Due.told("man a 1 5 0 0;man b 1 5 6 0;meet a b 30;ring b 20;");
        Due.is("kept in any case", c.chance(12345, 31, 0), 10);
        Due.is("not yet", c.chance(12345, 30, 0), 0);
        Due.is("seed -1", c.chance(-1, 35, 0), -1);
        Due.is("n 0", c.chance(1, 0, 0), -1);
        Due.is("n 201", c.chance(1, 201, 0), -1);
        Due.is("no such meeting", c.chance(1, 1, 1), -1);
        Due.is("meeting -1", c.chance(1, 1, -1), -1);
        Due.is("the highest seed", c.chance(Integer.MAX_VALUE, 200, 0), 10);
        c.go(40);
        Due.is("kept already", c.chance(0, 1, 0), 10);
        chanceByNumbers();
    }

    /** It is kept, if no stranger rings in minute 0, ten times over, each time by the numbers behind those used. */
    private static void chanceByNumbers() {
        SpeakClock c = Due.told("man a 1 0 0 0;man b 1 0 20 0;meet a b 22;ring b 1;crowd 50;");
        for (int seed = 0; seed < 40; seed++) {
            int number = seed;
            int kept = 0;
            for (int i = 0; i < 10; i++) {
                boolean[] rings = new boolean[30];
                for (int k = 0; k < 30; k++) {
                    number = (int) ((number * 1103515245L + 12345L) & 0x7fffffffL);
                    rings[k] = number / 65536 % 100 < 50;
                }
                // with a stranger in 0 one talks when b rings: one ahead, off -1, so b comes a minute behind a
                kept += rings[0] ? 0 : 1;
            }
            Due.is("chance(" + seed + ", 30, 0)", c.chance(seed, 30, 0), kept);
        }
    }

    private static void tried() {
        SpeakClock c = Due.told(Due.THREE);
        Due.is("tried(0, 0, 20)", c.tried(0, 0, 20), 0);
        Due.is("tried(0, 0, 21)", c.tried(0, 0, 21), 1);
        Due.is("tried(4, 0, 21): a waits 30", c.tried(4, 0, 21), 2);
        Due.is("tried(4, 0, 0)", c.tried(4, 0, 0), 0);
        Due.is("tried(5, 0, 21)", c.tried(5, 0, 21), -1);
        Due.is("tried(-1, 0, 21)", c.tried(-1, 0, 21), -1);
        Due.is("tried(0, 0, 201)", c.tried(0, 0, 201), -1);
        Due.is("tried(0, 0, -1)", c.tried(0, 0, -1), -1);
        Due.is("tried(0, 1, 5)", c.tried(0, 1, 5), -1);
        Due.is("tried(4, -1, 5)", c.tried(4, -1, 5), -1);
        Due.is("tried(2, 3, 5)", c.tried(2, 3, 5), -1);
        Due.is("tried(2, -1, 5)", c.tried(2, -1, 5), -1);
        Due.is("tried(2, 1, 21): b stays at -10", c.tried(2, 1, 21), 0);
        Due.is("tried(2, 2, 21)", c.tried(2, 2, 21), 1);
        c.go(21);
        Due.is("no more", c.tried(4, 0, 200), 0);
    }

    private static void triedOtherwise() {
        // b is told in time only without strangers ahead
        SpeakClock c = Due.told("man a 1 0 0 0;man b 1 0 5 0;ring b 9;meet a b 30;crowd 60;");
        Due.is("as it goes", c.ahead(200, 0, 0), 0);
        Due.is("no crowd", c.tried(0, 0, 200), 1);
        // the cold makes a's call so long that b has one ahead
        c = Due.told("man a 2 0 0 0;man b 1 0 5 0;ring a 0;ring b 2;meet a b 30;cold 0 0;");
        Due.is("as it goes in a cold", c.ahead(200, 0, 0), 0);
        Due.is("no cold", c.tried(1, 0, 200), 1);
        Due.is("a doesn't ring", c.tried(2, 0, 200), 1);
        Due.is("b doesn't ring", c.tried(2, 1, 200), 0);
        c.ring(0);
        Due.is("but a has rung by call", c.tried(2, 0, 200), 0);
        c = Due.told("man a 1 0 0 0;man b 1 0 0 1;meet a b 30;");
        Due.is("as it drifts", c.ahead(200, 0, 0), 0);
        Due.is("nothing drifts", c.tried(3, 0, 200), 1);
        c = Due.told("man a 1 0 0 0;man b 1 0 0 0;meet a b 30;law drift waits-30;");
        Due.is("all wait 30, as the laws say", c.tried(4, 0, 31), 1);
        Due.is("who wait 0 drift behind it", c.ahead(31, 0, 0), 0);
        c = Due.told("man a 1 0 0 0;man b 1 0 30 0;meet a b 60;");
        Due.is("all wait 30", c.tried(4, 0, 200), 1);
        c.set(1, 31);
        Due.is("and no more", c.tried(4, 0, 200), 0);
    }
}
