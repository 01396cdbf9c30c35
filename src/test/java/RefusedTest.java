import java.util.function.Supplier;
import java.util.function.ToLongFunction;

/** Each call that is refused, on clocks on which much has been done: what it answers, and that it leaves all as it was. */
public final class RefusedTest {
    private static final int MIN = Integer.MIN_VALUE;
    private static final int MAX = Integer.MAX_VALUE;
    private static final int[] NOT_PEOPLE = {-1, -2, 3, 6, MAX, MIN};

    public static void main(String[] args) {
        tapeAndText();
        ringing();
        hangingUp();
        setting();
        puttingOff();
        minutes();
        seen();
        undoAndImage();
        asked();
        Due.end();
    }

    /** Of two clocks made alike one is called: both must answer alike from then on. */
    private static void leaves(String call, Supplier<SpeakClock> made, ToLongFunction<SpeakClock> called, long due) {
        SpeakClock c = made.get();
        SpeakClock not = made.get();
        Due.is(call, called.applyAsLong(c), due);
        Due.is(call + " leaves all as it was", Look.at(c), Look.at(not));
        Due.is(call + " leaves all that comes then", Look.andThen(c), Look.andThen(not));
    }

    private static void refuses(String call, ToLongFunction<SpeakClock> called, long due) {
        leaves(call, Look::full, called, due);
        leaves(call + " with a tape", Look::fullAndFed, called, due);
    }

    private static long bit(boolean yes) {
        return yes ? 1 : 0;
    }

    private static void tapeAndText() {
        Due.by("Promise 2: NONE, and none come");
        leaves("feed", () -> {
            SpeakClock c = Look.full();
            for (int i = 0; i < 35; i++) {
                c.feed(0x73656564, 0x20313b20, 0x20202020, 0x20202020, 0x20202020);
            }
            return c;
        }, c -> c.feed(-1, -1, -1, -1, -1), -1);
        Due.by("Promise 3: -2, and the TAPE stays");
        for (int n : new int[] {-1, 21, 700, MAX, MIN}) {
            refuses("text(" + n + ")", c -> c.text(n), -2);
        }
    }

    private static SpeakClock fullQueue() {
        SpeakClock c = Due.told("man a 1 0 3 1;man b 1 0 -3 -1;man c 1 0 0 0;meet a b 99;crowd 100;seed 5;");
        c.go(38);
        c.set(2, 5);
        c.ring(1);
        c.keep();
        return c;
    }

    private static void ringing() {
        Due.by("Promise 10: -2: not IDLE, there are 20 in the QUEUE; NONE: no such PERSON");
        refuses("ring(0), waiting", c -> c.ring(0), -2);
        refuses("ring(1), talking", c -> c.ring(1), -2);
        leaves("ring(0), 20 in the queue", RefusedTest::fullQueue, c -> c.ring(0), -2);
        leaves("ring(1), 20 in the queue", RefusedTest::fullQueue, c -> c.ring(1), -2);
        for (int man : NOT_PEOPLE) {
            refuses("ring(" + man + ")", c -> c.ring(man), -1);
        }
    }

    private static void hangingUp() {
        Due.by("Promise 11: false: no such one, IDLE");
        refuses("hangUp(2), idle", c -> bit(c.hangUp(2)), 0);
        leaves("hangUp(0) with a full queue", RefusedTest::fullQueue, c -> bit(c.hangUp(0)), 0);
        for (int man : NOT_PEOPLE) {
            refuses("hangUp(" + man + ")", c -> bit(c.hangUp(man)), 0);
            leaves("hangUp(" + man + ") of strangers", RefusedTest::fullQueue, c -> bit(c.hangUp(man)), 0);
        }
    }

    private static void setting() {
        Due.by("Promise 12: false: no such ones, it is so");
        refuses("set(0, 5), it is so", c -> bit(c.set(0, 5)), 0);
        refuses("set(1, -10), it is so", c -> bit(c.set(1, -10)), 0);
        for (int off : new int[] {-100, 100, MAX, MIN}) {
            refuses("set(0, " + off + ")", c -> bit(c.set(0, off)), 0);
        }
        for (int man : NOT_PEOPLE) {
            refuses("set(" + man + ", 1)", c -> bit(c.set(man, 1)), 0);
        }
    }

    private static SpeakClock fullWithOneThere() {
        SpeakClock c = Look.full();
        c.go(4);
        c.set(0, 1);
        return c;
    }

    private static void puttingOff() {
        Due.by("Promise 13: false: no such ones, one is THERE, it is so");
        refuses("putOff(0, 70), it is so", c -> bit(c.putOff(0, 70)), 0);
        for (int time : new int[] {-1, 1000, MAX, MIN}) {
            refuses("putOff(0, " + time + ")", c -> bit(c.putOff(0, time)), 0);
        }
        for (int m : new int[] {-1, 3, 6, MAX, MIN}) {
            refuses("putOff(" + m + ", 5)", c -> bit(c.putOff(m, 5)), 0);
        }
        Due.is("c is there", fullWithOneThere().there(2), 2);
        leaves("putOff(1, 99), c is there", RefusedTest::fullWithOneThere, c -> bit(c.putOff(1, 99)), 0);
        leaves("needs(1), c is there", RefusedTest::fullWithOneThere, c -> c.needs(1), -1);
    }

    private static SpeakClock lateDay() {
        SpeakClock c = Look.full();
        for (int i = 0; i < 44; i++) {
            c.go(200);
        }
        c.go(190);
        c.keep();
        c.set(0, -5);
        return c;
    }

    private static void minutes() {
        Due.by("Promise 14: NONE, and none does: no such number, behind 9000");
        for (int n : new int[] {-1, 201, MAX, MIN}) {
            refuses("go(" + n + ")", c -> c.go(n), -1);
        }
        refuses("go(0)", c -> c.go(0), 3);
        for (int n : new int[] {8, 9, 200}) {
            leaves("go(" + n + ") in 8993", RefusedTest::lateDay, c -> c.go(n), -1);
        }
    }

    private static SpeakClock seen24() {
        SpeakClock c = Look.full();
        for (int i = 3; i < 24; i++) {
            c.see(i, 0, i, true);
        }
        return c;
    }

    private static void seen() {
        Due.by("Promises 33 and 34: NONE: no such ones, or there are 24");
        int[][] none = {{0, 0, 5}, {100, 0, 5}, {-1, 0, 5}, {5, 3, 5}, {5, -1, 5}, {5, 0, -201}, {5, 0, 401},
            {MAX, 0, 5}, {5, MIN, 5}, {5, 0, MAX}};
        for (int[] one : none) {
            refuses("see(" + one[0] + ", " + one[1] + ", " + one[2] + ")", c -> c.see(one[0], one[1], one[2], true), -1);
        }
        for (int number : new int[] {-1, 3, 24, MAX, MIN}) {
            refuses("strike(" + number + ")", c -> c.strike(number), -1);
        }
        leaves("see, there are 24", RefusedTest::seen24, c -> c.see(5, 0, 400, true), -1);
        leaves("strike(0), there are 24", RefusedTest::seen24, c -> c.strike(0), -1);
        Due.by("Promise 35: false: no such n");
        for (int n : new int[] {-2, 4, 25, MAX, MIN}) {
            refuses("known(" + n + ")", c -> bit(c.known(n)), 0);
        }
        leaves("known(25), there are 24", RefusedTest::seen24, c -> bit(c.known(25)), 0);
    }

    private static void undoAndImage() {
        Due.by("Promise 39: NONE: none");
        leaves("undo()", () -> {
            SpeakClock c = Look.full();
            c.go(1);
            return c;
        }, SpeakClock::undo, -1);
        Due.by("Promise 41: NONE: there is none");
        leaves("back()", () -> {
            SpeakClock c = Due.told(Due.THREE + "crowd 20;");
            c.go(4);
            c.set(0, 5);
            return c;
        }, SpeakClock::back, -1);
    }

    private static void asked() {
        Due.by("Promises 15 to 38: what is asked wrongly leaves all as it was");
        refuses("ahead(201, 0, 0)", c -> c.ahead(201, 0, 0), MIN);
        refuses("ahead(9, 4, 0)", c -> c.ahead(9, 4, 0), MIN);
        refuses("ahead(9, 2, 3)", c -> c.ahead(9, 2, 3), MIN);
        refuses("delay(3)", c -> c.delay(3), -1);
        refuses("bestRing(0, 61, 0)", c -> c.bestRing(0, 61, 0), -1);
        refuses("bestRing(0, 60, 2)", c -> c.bestRing(0, 60, 2), -1);
        refuses("near(61)", c -> c.near(61), -1);
        refuses("liars(61)", c -> c.liars(61), -1);
        refuses("agree(61)", c -> c.agree(61), -1);
        refuses("needs(3)", c -> c.needs(3), -1);
        refuses("rests(0, 0)", c -> c.rests(0, 0), -1);
        refuses("rest(0, 1, -1)", c -> c.rest(0, 1, -1), -1);
        refuses("apart(0, 3)", c -> c.apart(0, 3), -1);
        refuses("firstMissed(2)", c -> c.firstMissed(2), -1);
        refuses("longest(201)", c -> c.longest(201), -1);
        refuses("queue(20)", c -> c.queue(20), -1);
        refuses("there(3)", c -> c.there(3), -1);
        refuses("rates(3)", c -> c.rates(3), -1);
        refuses("chance(-1, 5, 0)", c -> c.chance(-1, 5, 0), -1);
        refuses("chance(1, 201, 0)", c -> c.chance(1, 201, 0), -1);
        refuses("tried(5, 0, 5)", c -> c.tried(5, 0, 5), -1);
        refuses("tried(2, 3, 5)", c -> c.tried(2, 3, 5), -1);
        refuses("meeting(3, 0)", c -> c.meeting(3, 0), -1);
        refuses("law(3, 0)", c -> c.law(3, 0), Long.MIN_VALUE);
        refuses("shows(3)", c -> c.shows(3), MIN);
        refuses("fault(2)", c -> c.fault(2), -1);
        refuses("count(14)", c -> c.count(14), -1);
        refuses("named(0)", c -> c.named(0), -1);
    }
}
