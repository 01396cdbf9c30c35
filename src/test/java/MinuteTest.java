import java.util.NoSuchElementException;

/** Promises 6 to 8 and 10 to 14: people, meetings, what is done by call, and the minutes themselves. */
public final class MinuteTest {
    public static void main(String[] args) {
        man();
        meeting();
        shows();
        ring();
        fullQueue();
        hangUp();
        set();
        putOff();
        go();
        ringsAndQueue();
        lengthOfCalls();
        colds();
        told();
        drift();
        meetings();
        crowds();
        Due.end();
    }

    private static int thrown(SpeakClock c, int man, int what) {
        try {
            c.man(man, what);
            return 0;
        } catch (IndexOutOfBoundsException e) {
            return e.getClass() == IndexOutOfBoundsException.class ? 1 : 9;
        } catch (NoSuchElementException e) {
            return 2;
        }
    }

    private static void man() {
        SpeakClock c = Due.told(Due.THREE);
        int[] atFirst = {3, 5, -10, 1, 0, 0, 0, -1};
        for (int what = 0; what < 8; what++) {
            Due.is("man(1, " + what + ") at first", c.man(1, what), atFirst[what]);
        }
        c.go(2);
        int[] waiting = {3, 5, -10, 1, 1, 1, 0, 0};
        int[] behind = {1, 30, 20, -2, 1, 2, 0, 1};
        for (int what = 0; what < 8; what++) {
            Due.is("man(1, " + what + ") waiting", c.man(1, what), waiting[what]);
            Due.is("man(2, " + what + ") behind", c.man(2, what), behind[what]);
        }
        c.go(1);
        Due.is("b talks", c.man(1, 4), 2);
        Due.is("who talks isn't in the queue", c.man(1, 7), -1);
        Due.is("a was told", c.man(0, 6), 1);
        Due.is("man(3, 0)", thrown(c, 3, 0), 1);
        Due.is("man(-1, 0)", thrown(c, -1, 0), 1);
        Due.is("man(0, 8)", thrown(c, 0, 8), 2);
        Due.is("man(0, -1)", thrown(c, 0, -1), 2);
        Due.is("man(3, 8)", thrown(c, 3, 8), 1);
        Due.is("man(MIN, MIN)", thrown(c, Integer.MIN_VALUE, Integer.MIN_VALUE), 1);
    }

    private static void meeting() {
        SpeakClock c = Due.told(Due.THREE);
        int[] second = {0, 2, 15, 0, -1, -1};
        for (int what = 0; what < 6; what++) {
            Due.is("meeting(1, " + what + ")", c.meeting(1, what), second[what]);
        }
        c.go(15);
        Due.is("c came at once", c.meeting(1, 5), 0);
        Due.is("a not yet", c.meeting(1, 4), -1);
        Due.is("not yet missed", c.meeting(1, 3), 0);
        c.go(6);
        int[] kept = {0, 1, 20, 1, 20, 19};
        int[] missed = {0, 2, 15, 2, 15, 0};
        for (int what = 0; what < 6; what++) {
            Due.is("meeting(0, " + what + ") kept", c.meeting(0, what), kept[what]);
            Due.is("meeting(1, " + what + ") missed", c.meeting(1, what), missed[what]);
        }
        Due.is("meeting(2, 0)", c.meeting(2, 0), -1);
        Due.is("meeting(-1, 0)", c.meeting(-1, 0), -1);
        Due.is("meeting(0, 6)", c.meeting(0, 6), -1);
        Due.is("meeting(0, -1)", c.meeting(0, -1), -1);
    }

    private static void shows() {
        SpeakClock c = Due.told(Due.THREE);
        Due.is("shows(1)", c.shows(1), -10);
        c.go(4);
        Due.is("shows(1) in minute 4", c.shows(1), -6);
        c.go(1);
        Due.is("shows(1) when told", c.shows(1), 4);
        Due.is("shows(3)", c.shows(3), Integer.MIN_VALUE);
        Due.is("shows(-1)", c.shows(-1), Integer.MIN_VALUE);
    }

    private static void ring() {
        SpeakClock c = Due.told("man a 5 5 0 0;man b 5 5 0 0;man c 5 5 0 0;");
        Due.is("ring(0)", c.ring(0), 0);
        Due.is("ring(0) while waiting", c.ring(0), -2);
        Due.is("ring(1)", c.ring(1), 1);
        c.go(1);
        Due.is("ring(0) while talking", c.ring(0), -2);
        Due.is("ring(2): one waits, one talks", c.ring(2), 2);
        Due.is("ahead", c.man(2, 5), 2);
        Due.is("place", c.man(2, 7), 1);
        Due.is("ring(3)", c.ring(3), -1);
        Due.is("ring(-1)", c.ring(-1), -1);
        c.go(4);
        Due.is("ring(0) when told", c.ring(0), 2);
    }

    private static void fullQueue() {
        SpeakClock c = Due.told("man a 1 0 0 0;man b 1 0 0 0;ring b 60;crowd 100;");
        c.go(40);
        // a stranger comes each minute and talks for two of them
        Due.is("20 in the queue", c.count(5), 20);
        Due.is("strangers who rang", c.count(10), 40);
        Due.is("ring(0) with 20 in the queue", c.ring(0), -2);
        Due.is("ahead is as it was", c.man(0, 5), 0);
        c.go(20);
        Due.is("still 20", c.count(5), 20);
        Due.is("strangers who rang, though there is no place", c.count(10), 60);
        c.go(1);
        Due.is("b rang, and there was no place", c.man(1, 4), 0);
        Due.is("then the first one of 20 talks", c.count(5), 19);
    }

    private static void hangUp() {
        SpeakClock c = Due.told("man a 5 5 0 0;man b 5 5 0 0;man c 5 5 0 0;");
        c.ring(0);
        c.ring(1);
        c.ring(2);
        Due.is("hangUp(1)", c.hangUp(1), true);
        Due.is("b is idle", c.man(1, 4), 0);
        Due.is("c moves up", c.man(2, 7), 1);
        Due.is("c has as many ahead as when it rang", c.man(2, 5), 2);
        Due.is("hangUp(1) again", c.hangUp(1), false);
        c.go(2);
        Due.is("hangUp(0) who talks", c.hangUp(0), true);
        Due.is("nobody talks", c.count(6), 0);
        Due.is("a is not told", c.man(0, 6), 0);
        c.go(1);
        Due.is("c talks", c.man(2, 4), 2);
        Due.is("hangUp(3)", c.hangUp(3), false);
        Due.is("hangUp(-1)", c.hangUp(-1), false);
        c.hangUp(2);
        c.ring(2);
        c.go(5);
        Due.is("a call begins anew", c.man(2, 6), 1);
    }

    private static void set() {
        SpeakClock c = Due.told(Due.THREE);
        Due.is("set(0, 99)", c.set(0, 99), true);
        Due.is("off", c.man(0, 2), 99);
        Due.is("set(0, 99) again", c.set(0, 99), false);
        Due.is("set(0, -99)", c.set(0, -99), true);
        Due.is("set(0, 100)", c.set(0, 100), false);
        Due.is("set(0, -100)", c.set(0, -100), false);
        Due.is("off stays", c.man(0, 2), -99);
        Due.is("set(3, 0)", c.set(3, 0), false);
        Due.is("set(-1, 0)", c.set(-1, 0), false);
        Due.is("two can be undone", c.count(13), 2);
    }

    private static void putOff() {
        SpeakClock c = Due.told(Due.THREE);
        Due.is("putOff(0, 999)", c.putOff(0, 999), true);
        Due.is("time", c.meeting(0, 2), 999);
        Due.is("putOff(0, 999) again", c.putOff(0, 999), false);
        Due.is("putOff(0, 1000)", c.putOff(0, 1000), false);
        Due.is("putOff(0, -1)", c.putOff(0, -1), false);
        Due.is("putOff(2, 5)", c.putOff(2, 5), false);
        Due.is("putOff(-1, 5)", c.putOff(-1, 5), false);
        c.go(1);
        Due.is("putOff(1, 16), c is there", c.putOff(1, 16), false);
        Due.is("putOff(0, 0)", c.putOff(0, 0), true);
        c.go(1);
        Due.is("putOff(0, 5), a is there", c.putOff(0, 5), false);
    }

    private static void go() {
        SpeakClock c = Due.told(Due.THREE);
        Due.is("go(0)", c.go(0), 0);
        Due.is("go(-1)", c.go(-1), -1);
        Due.is("go(201)", c.go(201), -1);
        Due.is("no minute went by", c.count(4), 0);
        for (int i = 1; i < 45; i++) {
            c.go(200);
        }
        Due.is("minute 8800", c.count(4), 8800);
        Due.is("go(199)", c.go(199), 8999);
        Due.is("go(2) would be behind 9000", c.go(2), -1);
        Due.is("go(1)", c.go(1), 9000);
        Due.is("go(0) at 9000", c.go(0), 9000);
        Due.is("go(1) at 9000", c.go(1), -1);
        Due.is("shows", c.shows(0), 9000);
        Due.is("what comes is told beyond it", c.ahead(200, 3, 0), 0);
    }

    private static void ringsAndQueue() {
        SpeakClock c = Due.told("man a 1 0 0 0;man b 4 0 0 0;ring b 0;ring a 0;ring b 0;ring b 3;ring a 7;ring b 9;");
        c.go(1);
        Due.is("b rings first", c.man(1, 4), 2);
        Due.is("a has one ahead", c.man(0, 5), 1);
        Due.is("b rings once", c.count(5), 1);
        c.go(3);
        Due.is("who talks doesn't ring: b is told", c.man(1, 4), 0);
        Due.is("told", c.man(1, 6), 1);
        c.go(1);
        Due.is("a is told", c.man(0, 6), 1);
        Due.is("off is less by those ahead", c.man(0, 2), -1);
        c.go(3);
        Due.is("a is told at once", c.man(0, 6), 2);
        Due.is("none ahead", c.man(0, 2), 0);
        c.go(2);
        Due.is("b talks again", c.man(1, 4), 2);
    }

    private static int minutesOfCall(String text) {
        SpeakClock c = Due.told(text);
        c.ring(0);
        int minutes = 0;
        while (c.man(0, 6) == 0 && minutes < 50) {
            c.go(1);
            minutes++;
        }
        return minutes;
    }

    private static void lengthOfCalls() {
        Due.is("talks", minutesOfCall("man a 9 0 0 0;"), 9);
        Due.is("law", minutesOfCall("man a 9 0 0 0;law talk talks-4;"), 5);
        Due.is("law below 1", minutesOfCall("man a 9 0 0 0;law talk 0-4;"), 1);
        Due.is("law above 20", minutesOfCall("man a 9 0 0 0;law talk 9999*9999;"), 20);
        Due.is("law beyond an int", minutesOfCall("man a 9 0 0 0;law talk 9000*9000*999+5;"), 20);
        Due.is("law with an error", minutesOfCall("man a 9 0 0 0;law talk 1/0;"), 9);
        Due.is("queue without that one", minutesOfCall("man a 9 0 0 0;law talk 3+queue;"), 3);
        Due.is("queue with one behind", minutesOfCall("man a 9 0 0 0;man b 1 0 0 0;ring b 0;law talk 3+queue;"), 4);
    }

    private static void colds() {
        Due.is("cold", minutesOfCall("man a 9 0 0 0;cold 0 0;"), 18);
        Due.is("two colds", minutesOfCall("man a 4 0 0 0;cold 0 3;cold 0 5;"), 8);
        Due.is("20 at most", minutesOfCall("man a 9 0 0 0;cold 0 9;law talk 11;"), 20);
        Due.is("cold later", minutesOfCall("man a 9 0 0 0;cold 1 9;"), 9);
        SpeakClock c = Due.told("man a 1 0 0 0;ring a 5;cold 3 5;");
        c.go(6);
        Due.is("the last minute of a cold", c.man(0, 4), 2);
        c = Due.told("man a 1 0 0 0;ring a 3;cold 3 5;");
        c.go(4);
        Due.is("the first minute of a cold", c.man(0, 4), 2);
        c = Due.told("man a 1 0 0 0;ring a 6;cold 3 5;");
        c.go(7);
        Due.is("behind a cold", c.man(0, 6), 1);
        c = Due.told("crowd 100;cold 0 0;");
        c.go(3);
        Due.is("a stranger talks 4 minutes", c.count(5), 2);
        c.go(1);
        Due.is("the stranger is through", c.count(6), 0);
    }

    private static int offWhenTold(String law) {
        SpeakClock c = Due.told("man a 1 0 7 0;man b 3 0 0 0;" + law);
        c.ring(1);
        c.ring(0);
        c.go(4);
        Due.is("told with " + law, c.man(0, 6), 1);
        return c.man(0, 2);
    }

    private static void told() {
        Due.is("without a law", offWhenTold(""), -1);
        Due.is("law", offWhenTold("law late 5*queue-told+off;"), 12);
        Due.is("law above", offWhenTold("law late 31;"), 30);
        Due.is("law below", offWhenTold("law late 0-31;"), -30);
        Due.is("law with an error", offWhenTold("law late 1/0;"), -1);
        Due.is("law with the minute", offWhenTold("law late minute;"), 3);
        SpeakClock c = Due.told("man a 1 0 0 0;law late told;");
        for (int i = 0; i < 3; i++) {
            c.ring(0);
            c.go(1);
            Due.is("told so far", c.man(0, 2), i);
        }
        c = Due.told("man a 1 0 0 0;ring a 20;crowd 100;");
        c.go(60);
        Due.is("strangers ahead", c.man(0, 6), 1);
        // strangers rang in 0 .. 19, ten of them have gone, so that ten wait and none talks
        Due.is("ten ahead", c.man(0, 5), 10);
        Due.is("off", c.ahead(0, 2, 0), -10);
    }

    private static void drift() {
        SpeakClock c = Due.told("man a 1 0 0 9;man b 1 0 30 -9;man c 1 0 0 0;");
        c.go(9);
        Due.is("not behind nine", c.man(0, 2), 0);
        c.go(1);
        Due.is("behind ten", c.man(0, 2), 9);
        Due.is("b behind ten", c.man(1, 2), 21);
        c.go(10);
        Due.is("behind twenty", c.man(0, 2), 18);
        c.go(200);
        Due.is("99 at most", c.man(0, 2), 99);
        Due.is("-99 at least", c.man(1, 2), -99);
        Due.is("no rate", c.man(2, 2), 0);
        c = Due.told("man a 1 0 20 1;law drift 0-off/2;");
        c.go(10);
        Due.is("9 at most", c.man(0, 2), 11);
        c.go(10);
        Due.is("law", c.man(0, 2), 6);
        c = Due.told("man a 1 0 20 1;law drift off/2;");
        c.go(10);
        Due.is("9 more at most", c.man(0, 2), 29);
        c = Due.told("man a 1 0 20 1;law drift 1/0;");
        c.go(10);
        Due.is("rate with an error", c.man(0, 2), 21);
        c = Due.told("man a 1 0 0 0;ring a 9;law drift minute;law late 3;");
        c.go(10);
        Due.is("told ahead of the drift, in the same minute", c.man(0, 2), 12);
    }

    private static void meetings() {
        SpeakClock c = Due.told("man a 1 5 0 0;man b 1 9 5 0;man c 1 9 6 0;meet a b 20;meet c a 20;meet b c 0;");
        c.go(1);
        Due.is("both at once", c.meeting(2, 3), 1);
        c.go(14);
        Due.is("c is there", c.there(2), 6);
        Due.is("b is not", c.meeting(0, 5), -1);
        c.go(1);
        Due.is("b is there", c.meeting(0, 5), 15);
        c.go(4);
        Due.is("not yet", c.count(8), 1);
        c.go(1);
        Due.is("five minutes are kept", c.meeting(0, 3), 1);
        Due.is("six are missed", c.meeting(1, 3), 2);
        Due.is("kept", c.count(8), 2);
        Due.is("missed", c.count(9), 1);
        c = Due.told("man a 1 0 0 0;man b 1 0 0 0;meet a b 10;");
        c.go(10);
        c.set(0, 1);
        c.go(1);
        Due.is("kept without a wait", c.meeting(0, 3), 1);
        c = Due.told("man a 1 0 0 0;man b 1 0 0 -1;meet a b 10;");
        c.go(12);
        Due.is("drift is ahead of meetings: b is one late", c.meeting(0, 5), 11);
        Due.is("missed by a minute", c.meeting(0, 3), 2);
        c = Due.told("man a 1 9 0 0;man b 1 9 0 0;meet a b 10;");
        c.set(0, 20);
        c.go(1);
        c.set(0, -50);
        c.go(10);
        Due.is("who was there stays there", c.meeting(0, 4), 0);
        Due.is("missed by ten", c.meeting(0, 3), 2);
    }

    private static void crowds() {
        int number = 77;
        int rang = 0;
        for (int i = 0; i < 200; i++) {
            number = (int) ((number * 1103515245L + 12345L) & 0x7fffffffL);
            rang += number / 65536 % 100 < 33 ? 1 : 0;
        }
        SpeakClock c = Due.told("crowd 33;seed 77;");
        c.go(200);
        Due.is("strangers of 200 minutes", c.count(10), rang);
        c = Due.told("crowd 0;seed 77;");
        c.go(200);
        Due.is("none", c.count(10), 0);
        c = Due.told("crowd 100;seed 77;");
        c.go(200);
        Due.is("all", c.count(10), 200);
    }
}
