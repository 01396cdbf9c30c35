import java.util.NoSuchElementException;

/** The edges that '==== 2' and promises 6 to 8 and 10 to 14 name: of each sentence its own test. */
public final class MinuteEdgesTest {
    private static final int MIN = Integer.MIN_VALUE;
    private static final int MAX = Integer.MAX_VALUE;
    private static final String AB = "man a 1 0 0 0;man b 1 0 0 0;";

    public static void main(String[] args) {
        ringsByNumbers();
        fewerThanTwenty();
        aheadOfWhoRings();
        crowdOfAHundred();
        numbersWithout31Bits();
        strangersAndAFullQueue();
        minutesOfTalk();
        minutesInACold();
        endsOfACold();
        behindTheLastMinute();
        lateOfLaw();
        lateWithoutLaw();
        eachTenthMinute();
        driftOfLaw();
        offStaysWithin();
        there();
        keptOrMissed();
        man();
        meeting();
        shows();
        ring();
        ringIsRefused();
        hangUp();
        set();
        putOff();
        go();
        goBehind9000();
        Due.end();
    }

    private static void ringsByNumbers() {
        Due.by("==== 2 (1): by numbers of RINGS each PERSON who RINGS and is IDLE is WAITING");
        SpeakClock c = Due.told(AB + "man c 2 0 0 0;ring c 0;ring a 0;ring c 0;ring b 0;ring a 1;ring c 1;");
        c.go(1);
        Due.is("c, who rang first, talks", c.man(2, 4), 2);
        Due.is("a is first in the queue", c.queue(0), 0);
        Due.is("b is second", c.queue(1), 1);
        Due.is("c rang once", c.count(5), 2);
        c.go(1);
        Due.is("who waits or talks doesn't ring again", c.count(5), 2);
        Due.is("c was told", c.man(2, 6), 1);
        c = Due.told("man a 1 0 0 0;ring a 0;ring a 200;");
        c.go(1);
        Due.is("the least minute of a ring", c.man(0, 6), 1);
        c.go(199);
        Due.is("not ahead of minute 200", c.man(0, 6), 1);
        c.go(1);
        Due.is("the greatest minute of a ring", c.man(0, 6), 2);
    }

    /** Of strangers alone there are n / 2 in the queue behind n minutes, and one talks when n is odd. */
    private static SpeakClock strangers(int minutes, String rings) {
        SpeakClock c = Due.told(AB + rings + "crowd 100;");
        c.go(minutes);
        return c;
    }

    private static void fewerThanTwenty() {
        Due.by("==== 2 (1): behind all in the QUEUE, if there are fewer than 20 in it");
        SpeakClock c = strangers(38, "ring a 38;");
        Due.is("19 in the queue", c.count(5), 19);
        c.go(1);
        Due.is("a has the twentieth place, then the first one talks", c.man(0, 7), 18);
        Due.is("no place for a stranger behind a", c.count(5), 19);
        Due.is("19 were ahead", c.man(0, 5), 19);
        c = strangers(40, "ring a 40;");
        Due.is("20 in the queue", c.count(5), 20);
        c.go(1);
        Due.is("a is idle", c.man(0, 4), 0);
        Due.is("a has no place", c.man(0, 7), -1);
        Due.is("a has none ahead", c.man(0, 5), 0);
        Due.is("nothing is behind the twenty", c.count(5), 19);
        c = strangers(41, "ring b 0;ring b 41;");
        Due.is("b rang as the first one, 20 in the queue", c.man(1, 6) * 100 + c.count(5), 120);
        c.go(20);
        Due.is("b doesn't come later, either", c.man(1, 6) * 10 + c.man(1, 4), 10);
    }

    private static void aheadOfWhoRings() {
        Due.by("==== 2 (1): AHEAD: how many were in the QUEUE then, and who TALKS (1)");
        SpeakClock c = strangers(39, "ring a 39;");
        Due.is("nobody but 19 in the queue and who talks", c.count(5) * 10 + c.count(6), 191);
        c.go(1);
        Due.is("20 ahead", c.man(0, 5), 20);
        Due.is("the last place", c.man(0, 7), 19);
        c = strangers(2, "ring a 2;");
        Due.is("one in the queue, nobody talks", c.count(5) * 10 + c.count(6), 10);
        c.go(1);
        Due.is("one ahead", c.man(0, 5), 1);
        c = Due.told(AB + "ring a 0;ring b 5;");
        c.go(6);
        Due.is("none ahead of a", c.man(0, 5), 0);
        Due.is("none ahead of b", c.man(1, 5), 0);
    }

    private static int number(long seed) {
        return (int) ((seed * 1103515245L + 12345L) % 2147483648L / 65536L);
    }

    private static void crowdOfAHundred() {
        Due.by("==== 2 (2): a stranger RINGS, if a number modulo 100 is below crowd");
        for (int seed = 0; seed < 400; seed++) {
            int rest = number(seed) % 100;
            SpeakClock c = Due.told("crowd " + rest + ";seed " + seed + ";");
            c.go(1);
            Due.is("seed " + seed + ": " + rest + " is not below itself", c.count(10), 0);
            c = Due.told("crowd " + (rest + 1) + ";seed " + seed + ";");
            c.go(1);
            Due.is("seed " + seed + ": " + rest + " is below one more", c.count(10), 1);
        }
        Due.by("==== 2 (2): no number, if that is 0 or 100");
        for (int seed = 0; seed < 20; seed++) {
            SpeakClock c = Due.told("crowd 0;seed " + seed + ";");
            c.go(100);
            Due.is("never of 0", c.count(10), 0);
            c = Due.told("crowd 100;seed " + seed + ";");
            c.go(100);
            Due.is("always of 100", c.count(10), 100);
        }
    }

    private static void numbersWithout31Bits() {
        Due.by("==== 2: Numbers: without what is above 31 bits, by 65536");
        for (int seed : new int[] {0, 1, 77, 99999}) {
            SpeakClock c = Due.told("crowd 50;seed " + seed + ";");
            java.math.BigInteger last = java.math.BigInteger.valueOf(seed);
            int rang = 0;
            for (int i = 0; i < 120; i++) {
                last = last.multiply(java.math.BigInteger.valueOf(1103515245)).add(java.math.BigInteger.valueOf(12345))
                        .mod(java.math.BigInteger.TWO.pow(31));
                rang += last.intValue() / 65536 % 100 < 50 ? 1 : 0;
                c.go(1);
                Due.is("strangers of seed " + seed + " in " + (i + 1) + " minutes", c.count(10), rang);
            }
        }
    }

    private static void strangersAndAFullQueue() {
        Due.by("==== 2 (2): a stranger is behind all in the QUEUE, if there are fewer than 20 in it");
        SpeakClock c = strangers(38, "");
        Due.is("19", c.count(5), 19);
        c.go(1);
        Due.is("a twentieth comes, then the first one talks", c.count(5), 19);
        c.go(1);
        Due.is("a twentieth comes while one talks", c.count(5), 20);
        c.go(1);
        Due.is("none comes behind 20, then the first one talks", c.count(5), 19);
        for (int i = 0; i < 100; i++) {
            c.go(1);
            Due.is("never more than 20", c.count(5) <= 20, true);
            Due.is("but each RANG", c.count(10), 42 + i);
        }
    }

    private static int callOf(String text) {
        SpeakClock c = Due.told(text);
        c.ring(0);
        for (int minutes = 1; minutes <= 50; minutes++) {
            c.go(1);
            if (c.man(0, 6) == 1) {
                return minutes;
            }
        }
        return 0;
    }

    private static void minutesOfTalk() {
        Due.by("==== 2 (3): E of talk MINUTES (1 .. 20)");
        int[][] due = {{0, 1}, {1, 1}, {2, 2}, {19, 19}, {20, 20}, {21, 20}, {9999, 20}};
        for (int[] one : due) {
            Due.is("law " + one[0], callOf("man a 5 0 0 0;law talk " + one[0] + ";"), one[1]);
        }
        Due.is("law -1", callOf("man a 5 0 0 0;law talk 0-1;"), 1);
        Due.is("law -10 to the 12", callOf("man a 5 0 0 0;law talk 0-1000*1000*1000*1000;"), 1);
        Due.is("law 10 to the 12", callOf("man a 5 0 0 0;law talk 1000*1000*1000*1000;"), 20);
        Due.is("law 2 to the 32", callOf("man a 5 0 0 0;law talk 4096*4096*256;"), 20);
        Due.is("law 2 to the 31", callOf("man a 5 0 0 0;law talk 4096*4096*128;"), 20);
        Due.by("==== 2 (3): TALKS without, with an ERROR");
        Due.is("TALKS 1", callOf("man a 1 0 0 0;"), 1);
        Due.is("TALKS 9", callOf("man a 9 0 0 0;law late 1;law drift 2;"), 9);
        Due.is("/ 0", callOf("man a 9 0 0 0;law talk 1/0;"), 9);
        Due.is("above 10 to the 12", callOf("man a 9 0 0 0;law talk 1000*1000*1000*1000+1;"), 9);
        Due.is("below it", callOf("man a 9 0 0 0;law talk 0-1000*1000*1000*1000-1;"), 9);
        Due.by("==== 2 (3): a stranger 2");
        SpeakClock c = Due.told("crowd 100;law talk 20;");
        c.go(1);
        Due.is("it talks behind one minute", c.count(6), 1);
        c.go(1);
        Due.is("and no more behind two", c.count(6), 0);
    }

    private static void minutesInACold() {
        Due.by("==== 2 (3): twice that (20 at most) in a cold");
        int[][] due = {{0, 2}, {1, 2}, {9, 18}, {10, 20}, {11, 20}, {20, 20}, {21, 20}};
        for (int[] one : due) {
            Due.is("law " + one[0], callOf("man a 5 0 0 0;cold 0 0;law talk " + one[0] + ";"), one[1]);
        }
        Due.is("without a law", callOf("man a 9 0 0 0;cold 0 200;"), 18);
        Due.is("with an ERROR", callOf("man a 4 0 0 0;cold 0 200;law talk 1/0;"), 8);
        Due.is("in three of them", callOf("man a 3 0 0 0;cold 0 200;cold 0 0;cold 0 5;"), 6);
        SpeakClock c = Due.told("crowd 100;cold 0 0;");
        c.go(3);
        Due.is("a stranger talks in its third minute", c.count(6), 1);
        c.go(1);
        Due.is("and no more behind its fourth", c.count(6), 0);
    }

    private static void endsOfACold() {
        Due.by("==== 2: in a cold (both ends are in it)");
        int[][] due = {{6, 2}, {7, 4}, {8, 4}, {9, 4}, {10, 2}};
        for (int[] one : due) {
            SpeakClock c = Due.told("man a 2 0 0 0;cold 7 9;");
            c.go(one[0]);
            c.ring(0);
            c.go(one[1] - 1);
            Due.is("begun in " + one[0] + ", behind all but its last minute", c.man(0, 6), 0);
            c.go(1);
            Due.is("begun in " + one[0] + ", behind its last minute", c.man(0, 6), 1);
        }
        SpeakClock c = Due.told("man a 1 0 0 0;cold 200 200;ring a 199;");
        c.go(200);
        Due.is("ahead of minute 200", c.man(0, 6), 1);
        c.ring(0);
        c.go(1);
        Due.is("in minute 200", c.man(0, 6), 1);
        c.go(1);
        Due.is("in minute 201", c.man(0, 6), 2);
        c.ring(0);
        c.go(1);
        Due.is("behind the cold", c.man(0, 6), 3);
    }

    private static void behindTheLastMinute() {
        Due.by("==== 2 (4): behind the last one a PERSON is TOLD the time, and IDLE");
        SpeakClock c = Due.told("man a 1 0 5 0;man b 2 0 5 0;ring a 3;ring b 4;");
        c.go(3);
        Due.is("not yet", c.man(0, 6), 0);
        c.go(1);
        Due.is("a call of one minute is over in it", c.man(0, 6), 1);
        Due.is("a is idle", c.man(0, 4), 0);
        Due.is("off", c.man(0, 2), 0);
        c.go(1);
        Due.is("b talks", c.man(1, 4), 2);
        Due.is("b has its off still", c.man(1, 2), 5);
        c.go(1);
        Due.is("b is told", c.man(1, 2) * 10 + c.man(1, 4), 0);
        Due.is("told in all", c.count(7), 2);
    }

    private static int offBy(String law) {
        SpeakClock c = Due.told("man a 1 0 7 0;" + law);
        c.ring(0);
        c.go(1);
        return c.man(0, 2);
    }

    private static void lateOfLaw() {
        Due.by("==== 2 (4): OFF is E of late (-30 .. 30)");
        Due.is("30", offBy("law late 30;"), 30);
        Due.is("31", offBy("law late 31;"), 30);
        Due.is("29", offBy("law late 29;"), 29);
        Due.is("-30", offBy("law late 0-30;"), -30);
        Due.is("-31", offBy("law late 0-31;"), -30);
        Due.is("-29", offBy("law late 0-29;"), -29);
        Due.is("2 to the 32", offBy("law late 4096*4096*256;"), 30);
        Due.is("10 to the 12", offBy("law late 1000*1000*1000*1000;"), 30);
        Due.is("-10 to the 12", offBy("law late 0-1000*1000*1000*1000;"), -30);
        Due.is("off as it was", offBy("law late off;"), 7);
        Due.is("told so far", offBy("law late told;"), 0);
    }

    private static void lateWithoutLaw() {
        Due.by("==== 2 (4): 0 less AHEAD without, with an ERROR");
        for (String law : new String[] {"", "law late 1/0;", "law late 1000*1000*1000*1000+1;", "law talk 1;"}) {
            SpeakClock c = Due.told(AB + "man c 1 0 9 0;" + law);
            c.ring(0);
            c.ring(1);
            c.ring(2);
            c.go(3);
            Due.is("none ahead, " + law, c.man(0, 2), 0);
            Due.is("one ahead, " + law, c.man(1, 2), -1);
            Due.is("two ahead, " + law, c.man(2, 2), -2);
        }
        SpeakClock c = Due.told(AB + "ring a 39;crowd 100;");
        c.go(110);
        Due.is("twenty ahead, the most there can be", c.man(0, 6) * 100 + c.man(0, 2), 80);
    }

    private static void eachTenthMinute() {
        Due.by("==== 2 (5): behind each tenth MINUTE (the MINUTE and 1 can be divided by 10)");
        SpeakClock c = Due.told("man a 1 0 0 1;man b 1 0 0 -1;");
        for (int minute = 1; minute <= 45; minute++) {
            c.go(1);
            Due.is("a behind " + minute, c.man(0, 2), minute / 10);
            Due.is("b behind " + minute, c.man(1, 2), -(minute / 10));
        }
    }

    private static int moreBy(String law) {
        SpeakClock c = Due.told("man a 1 0 10 4;" + law);
        c.go(10);
        return c.man(0, 2) - 10;
    }

    private static void driftOfLaw() {
        Due.by("==== 2 (5): E of drift (-9 .. 9; RATE without, with an ERROR)");
        Due.is("9", moreBy("law drift 9;"), 9);
        Due.is("10", moreBy("law drift 10;"), 9);
        Due.is("8", moreBy("law drift 8;"), 8);
        Due.is("0", moreBy("law drift 0;"), 0);
        Due.is("-9", moreBy("law drift 0-9;"), -9);
        Due.is("-10", moreBy("law drift 0-10;"), -9);
        Due.is("-8", moreBy("law drift 0-8;"), -8);
        Due.is("2 to the 32", moreBy("law drift 4096*4096*256;"), 9);
        Due.is("10 to the 12", moreBy("law drift 1000*1000*1000*1000;"), 9);
        Due.is("-10 to the 12", moreBy("law drift 0-1000*1000*1000*1000;"), -9);
        Due.is("without", moreBy(""), 4);
        Due.is("/ 0", moreBy("law drift 1/0;"), 4);
        Due.is("above 10 to the 12", moreBy("law drift 1000*1000*1000*1000+1;"), 4);
        Due.is("the minute then", moreBy("law drift minute;"), 9);
        Due.is("the minute then less 5", moreBy("law drift minute-5;"), 4);
    }

    private static void offStaysWithin() {
        Due.by("==== 2 (5): OFF is more, -99 .. 99");
        int[][] due = {{89, 98}, {90, 99}, {91, 99}, {99, 99}};
        for (int[] one : due) {
            SpeakClock c = Due.told("man a 1 0 0 9;man b 1 0 0 -9;");
            c.set(0, one[0]);
            c.set(1, -one[0]);
            c.go(10);
            Due.is("9 more than " + one[0], c.man(0, 2), one[1]);
            Due.is("9 less than -" + one[0], c.man(1, 2), -one[1]);
        }
        SpeakClock c = Due.told("man a 1 0 0 9;man b 1 0 0 -9;");
        c.go(200);
        c.go(200);
        Due.is("no further than 99", c.man(0, 2), 99);
        Due.is("no further than -99", c.man(1, 2), -99);
        Due.is("shows", c.shows(1), 301);
    }

    private static void there() {
        Due.by("==== 2 (6): is THERE, if the clock SHOWS the TIME at least");
        SpeakClock c = Due.told("man a 1 0 0 0;man b 1 0 -3 0;meet a b 12;meet b a 12;");
        c.go(12);
        Due.is("a minute ahead", c.meeting(0, 4), -1);
        c.go(1);
        Due.is("a", c.meeting(0, 4) * 100 + c.meeting(1, 5), 1212);
        c.go(2);
        Due.is("b, a minute ahead", c.meeting(0, 5), -1);
        c.go(1);
        Due.is("b", c.meeting(0, 5) * 100 + c.meeting(1, 4), 1515);
        c = Due.told(AB + "meet a b 0;meet a b 300;");
        c.go(1);
        Due.is("the least time", c.meeting(0, 4) * 10 + c.meeting(0, 5), 0);
        c.set(1, 99);
        c.go(200);
        Due.is("minute 200 shows 299", c.meeting(1, 5), -1);
        c.go(1);
        Due.is("minute 201 shows 300", c.meeting(1, 5), 201);
    }

    private static int outcome(String waits, int offOfB) {
        String[] both = waits.split(" ");
        SpeakClock c = Due.told("man a 1 " + both[0] + " 0 0;man b 1 " + both[1] + " " + offOfB + " 0;meet a b 60;");
        c.go(60 + Math.max(0, -offOfB));
        Due.is("not yet, when the later one isn't there", c.meeting(0, 3), 0);
        c.go(1);
        return c.meeting(0, 3);
    }

    private static void keptOrMissed() {
        Due.by("==== 2 (6): KEPT, if the one came no more MINUTES behind the other one than the lesser WAITS of both");
        Due.is("at once, neither waits", outcome("0 0", 0), 1);
        Due.is("1 behind, neither waits", outcome("0 0", 1), 2);
        Due.is("1 ahead, neither waits", outcome("0 0", -1), 2);
        for (String waits : new String[] {"5 30", "30 5", "5 5", "5 6", "6 5"}) {
            Due.is("5 behind of " + waits, outcome(waits, -5), 1);
            Due.is("5 ahead of " + waits, outcome(waits, 5), 1);
            Due.is("6 behind of " + waits, outcome(waits, -6), 2);
            Due.is("6 ahead of " + waits, outcome(waits, 6), 2);
        }
        Due.is("30 behind", outcome("30 30", -30), 1);
        Due.is("30 ahead", outcome("30 30", 30), 1);
        Due.is("30 behind of 29", outcome("29 30", -30), 2);
        SpeakClock c = Due.told("man a 1 30 0 0;man b 1 30 0 0;meet a b 60;");
        c.set(1, 31);
        c.go(61);
        Due.is("31 ahead of 30", c.meeting(0, 3), 2);
        c.set(1, -20);
        c.go(9);
        Due.is("stays missed", c.meeting(0, 3) * 100 + c.meeting(0, 5), 229);
    }

    private static int thrown(SpeakClock c, int man, int what) {
        try {
            c.man(man, what);
            return 0;
        } catch (IndexOutOfBoundsException e) {
            return e.getClass() == IndexOutOfBoundsException.class ? 1 : 3;
        } catch (NoSuchElementException e) {
            return e.getClass() == NoSuchElementException.class ? 2 : 3;
        }
    }

    private static void man() {
        SpeakClock c = Due.told(AB);
        Due.by("Promise 6: IndexOutOfBoundsException: no such PERSON");
        for (int man : new int[] {-1, 2, 5, 6, MAX, MIN}) {
            for (int what : new int[] {0, 7, 8, -1}) {
                Due.is("man(" + man + ", " + what + ") throws", thrown(c, man, what), 1);
            }
        }
        Due.is("man(0, 0) of nobody throws", thrown(new SpeakClock(), 0, 0), 1);
        Due.by("Promise 6: NoSuchElementException: no such what");
        for (int what : new int[] {-1, 8, MAX, MIN}) {
            Due.is("man(0, " + what + ") throws", thrown(c, 0, what), 2);
            Due.is("man(1, " + what + ") throws", thrown(c, 1, what), 2);
        }
        for (int what = 0; what < 8; what++) {
            Due.is("man(1, " + what + ") throws nothing", thrown(c, 1, what), 0);
        }
        Due.by("Promise 6: 4: 0 IDLE, 1 WAITING, 2 TALKING, 7 the place in the QUEUE (0 up; NONE: not in it)");
        Due.is("idle", c.man(0, 4) * 10 + c.man(0, 7), -1);
        c.ring(1);
        c.ring(0);
        Due.is("waiting, first", c.man(1, 4) * 10 + c.man(1, 7), 10);
        Due.is("waiting, second", c.man(0, 4) * 10 + c.man(0, 7), 11);
        c = Due.told("man a 2 0 0 0;ring a 0;");
        c.go(1);
        Due.is("talking", c.man(0, 4) * 10 + c.man(0, 7), 19);
        Due.by("Promise 6: 5 AHEAD when it RANG last (0 at first)");
        c = Due.told(AB);
        Due.is("at first", c.man(1, 5), 0);
        c.ring(0);
        c.ring(1);
        c.go(1);
        Due.is("one ahead, though none is now", c.man(1, 5), 1);
        c.go(3);
        Due.is("when it rang last", c.man(1, 5), 1);
        c.ring(1);
        Due.is("when it rings anew", c.man(1, 5), 0);
    }

    private static void meeting() {
        SpeakClock c = Due.told(AB + "meet b a 5;meet a b 9;");
        Due.by("Promise 7: 4, 5 at which MINUTE the first one, the second one came (NONE: not THERE)");
        c.set(1, 5);
        c.go(1);
        Due.is("b, who is the first one, came at 0", c.meeting(0, 4), 0);
        Due.is("a is not there", c.meeting(0, 5), -1);
        c.go(5);
        Due.is("a came at 5", c.meeting(0, 5), 5);
        Due.is("b came to the other one at 4", c.meeting(1, 5), 4);
        Due.by("Promise 7: NONE: no such ones");
        for (int m : new int[] {-1, 2, 6, MAX, MIN}) {
            Due.is("meeting(" + m + ", 2)", c.meeting(m, 2), -1);
        }
        for (int what : new int[] {-1, 6, MAX, MIN}) {
            Due.is("meeting(0, " + what + ")", c.meeting(0, what), -1);
        }
        Due.is("meeting(0, 0) of none", new SpeakClock().meeting(0, 0), -1);
    }

    private static void shows() {
        Due.by("Promise 8: Integer.MIN_VALUE: no such PERSON");
        SpeakClock c = Due.told(AB);
        for (int man : new int[] {-1, 2, 6, MAX, MIN}) {
            Due.is("shows(" + man + ")", c.shows(man), MIN);
        }
        Due.is("shows(0) of nobody", new SpeakClock().shows(0), MIN);
        Due.by("Promise 8: what a PERSON's clock SHOWS now");
        c.set(0, -99);
        c.set(1, 99);
        Due.is("the least", c.shows(0), -99);
        Due.is("99", c.shows(1), 99);
        c.go(200);
        Due.is("behind 200 minutes", c.shows(0) * 1000 + c.shows(1), 101299);
    }

    private static void ring() {
        Due.by("Promise 10: behind all in the QUEUE: how many are AHEAD");
        SpeakClock c = strangers(0, "");
        Due.is("ring(1), the queue empty", c.ring(1), 0);
        Due.is("ring(0), one in it", c.ring(0), 1);
        c = strangers(38, "");
        Due.is("ring(0), 19 in it", c.ring(0), 19);
        Due.is("its place", c.man(0, 7), 19);
        c = strangers(39, "");
        Due.is("ring(0), 19 in it and one talks", c.ring(0), 20);
        Due.is("20 in it then", c.count(5), 20);
        c = Due.told("man a 2 0 0 0;man b 1 0 0 0;ring a 0;");
        c.go(1);
        Due.is("ring(1), one talks", c.ring(1), 1);
        Due.is("it doesn't talk ahead of the minute", c.man(1, 4), 1);
    }

    private static void ringIsRefused() {
        Due.by("Promise 10: -2: not IDLE");
        SpeakClock c = Due.told("man a 2 0 0 0;man b 1 0 0 0;");
        c.ring(0);
        Due.is("waiting", c.ring(0), -2);
        c.go(1);
        Due.is("talking", c.ring(0), -2);
        c.go(1);
        Due.is("told, so it is idle", c.ring(0), 0);
        Due.by("Promise 10: -2: there are 20 in the QUEUE");
        c = strangers(40, "");
        Due.is("20 in it", c.ring(0), -2);
        c = strangers(38, "");
        c.ring(0);
        Due.is("20 in it, one of them by call", c.ring(1), -2);
        c.hangUp(0);
        Due.is("19 again", c.ring(1), 19);
        Due.by("Promise 10: NONE: no such PERSON");
        for (int man : new int[] {-1, 2, 6, MAX, MIN}) {
            Due.is("ring(" + man + ")", c.ring(man), -1);
        }
        Due.is("ring(0) of nobody", new SpeakClock().ring(0), -1);
    }

    private static void hangUp() {
        Due.by("Promise 11: true: WAITING or TALKING hangs up (is IDLE)");
        SpeakClock c = Due.told("man a 5 0 0 0;man b 5 0 0 0;man c 5 0 0 0;");
        c.ring(0);
        c.ring(1);
        c.ring(2);
        Due.is("first in the queue", c.hangUp(0), true);
        Due.is("b is first now", c.queue(0), 1);
        Due.is("last in the queue", c.hangUp(2), true);
        Due.is("one left", c.count(5), 1);
        c.go(1);
        Due.is("talking", c.hangUp(1), true);
        Due.is("all idle", c.man(0, 4) + c.man(1, 4) + c.man(2, 4) + c.count(5) + c.count(6), 0);
        c.go(30);
        Due.is("nobody is told", c.count(7), 0);
        Due.by("Promise 11: false: no such one, IDLE");
        Due.is("idle", c.hangUp(1), false);
        for (int man : new int[] {-2, -1, 3, 6, MAX, MIN}) {
            Due.is("hangUp(" + man + ")", c.hangUp(man), false);
        }
        c = strangers(5, "");
        Due.is("a stranger talks, and strangers wait", c.hangUp(-2), false);
        Due.is("nor NONE", c.hangUp(-1), false);
        c = Due.told(AB);
        Due.is("nobody talks", c.hangUp(-1), false);
        Due.is("hangUp(0) of nobody", new SpeakClock().hangUp(0), false);
    }

    private static void set() {
        Due.by("Promise 12: OFF of a PERSON is so much -99 .. 99");
        SpeakClock c = Due.told(AB);
        for (int off : new int[] {99, -99, 98, -98, 31, -31, 0}) {
            Due.is("set(1, " + off + ")", c.set(1, off), true);
            Due.is("off", c.man(1, 2), off);
            Due.is("the other's", c.man(0, 2), 0);
        }
        Due.by("Promise 12: false: no such ones, it is so");
        c.set(1, 7);
        Due.is("set(1, 7), it is so", c.set(1, 7), false);
        Due.is("set(0, 0), it is so", c.set(0, 0), false);
        for (int off : new int[] {100, -100, 200, MAX, MIN}) {
            Due.is("set(1, " + off + ")", c.set(1, off), false);
            Due.is("off stays", c.man(1, 2), 7);
        }
        for (int man : new int[] {-1, 2, 6, MAX, MIN}) {
            Due.is("set(" + man + ", 1)", c.set(man, 1), false);
        }
        Due.is("set(0, 1) of nobody", new SpeakClock().set(0, 1), false);
    }

    private static void putOff() {
        Due.by("Promise 13: at a TIME 0 .. 999: true");
        SpeakClock c = Due.told(AB + "meet a b 5;meet a b 6;");
        for (int time : new int[] {0, 999, 1, 998, 301}) {
            Due.is("putOff(1, " + time + ")", c.putOff(1, time), true);
            Due.is("time", c.meeting(1, 2), time);
            Due.is("the other's", c.meeting(0, 2), 5);
        }
        Due.by("Promise 13: false: no such ones, one is THERE, it is so");
        Due.is("it is so", c.putOff(1, 301), false);
        for (int time : new int[] {-1, 1000, MAX, MIN}) {
            Due.is("putOff(1, " + time + ")", c.putOff(1, time), false);
            Due.is("time stays", c.meeting(1, 2), 301);
        }
        for (int m : new int[] {-1, 2, 6, MAX, MIN}) {
            Due.is("putOff(" + m + ", 9)", c.putOff(m, 9), false);
        }
        Due.is("putOff(0, 9) of none", new SpeakClock().putOff(0, 9), false);
        c.set(0, 5);
        c.go(1);
        Due.is("the first one is there", c.putOff(0, 9), false);
        c = Due.told(AB + "meet a b 5;");
        c.set(1, 5);
        c.go(1);
        Due.is("the second one is there", c.putOff(0, 9), false);
        c.go(9);
        Due.is("both are", c.putOff(0, 9), false);
        Due.is("time stays", c.meeting(0, 2), 5);
    }

    private static void go() {
        Due.by("Promise 14: so many MINUTES (0 .. 200) go by");
        SpeakClock c = Due.told(AB);
        Due.is("go(0)", c.go(0), 0);
        Due.is("go(1)", c.go(1), 1);
        Due.is("go(200)", c.go(200), 201);
        Due.by("Promise 14: NONE, and none does: no such number");
        for (int n : new int[] {-1, 201, MAX, MIN}) {
            Due.is("go(" + n + ")", c.go(n), -1);
            Due.is("the minute stays", c.count(4), 201);
        }
    }

    private static void goBehind9000() {
        Due.by("Promise 14: NONE, and none does: behind 9000");
        SpeakClock c = Due.told("man a 1 0 0 9;");
        for (int i = 0; i < 44; i++) {
            c.go(200);
        }
        Due.is("go(200) from 8800", c.go(200), 9000);
        Due.is("go(0) at 9000", c.go(0), 9000);
        Due.is("go(1) at 9000", c.go(1), -1);
        Due.is("go(200) at 9000", c.go(200), -1);
        Due.is("the minute stays", c.count(4), 9000);
        c = Due.told("man a 1 0 0 9;");
        c.go(1);
        for (int i = 0; i < 44; i++) {
            c.go(200);
        }
        Due.is("go(200) from 8801", c.go(200), -1);
        Due.is("none went by", c.count(4), 8801);
        Due.is("go(199) from 8801", c.go(199), 9000);
    }
}
