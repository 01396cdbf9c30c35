/** The edges that '==== 4' and promises 39 to 42 name: of each sentence its own test. */
public final class BackEdgesTest {
    private static final int MIN = Integer.MIN_VALUE;
    private static final int MAX = Integer.MAX_VALUE;
    private static final String AB = "man a 2 0 0 0;man b 1 0 0 0;meet a b 50;";

    public static void main(String[] args) {
        undoOfEach();
        undoneLatestFirst();
        twentyAtMost();
        ifNoMinuteWentBy();
        nothingToUndo();
        keep();
        imageKeepsAll();
        imageKeepsNothingSeen();
        backToNone();
        counts();
        countsOfWhatIsFull();
        countOfAnotherWhat();
        Due.end();
    }

    /** What one call did is undone: all is as on a clock on which it was never called. */
    private static void undone(String what, SpeakClock did, SpeakClock not) {
        Due.is("undo() of " + what, did.undo(), not.count(13));
        Due.is("all it answers then, " + what, Look.at(did), Look.at(not));
        Due.is("all it answers later, " + what, Look.andThen(did), Look.andThen(not));
    }

    private static void undoOfEach() {
        Due.by("==== 4: Ringing, hanging up, setting, putting off by call can be undone");
        SpeakClock c = Look.full();
        Due.is("ring(2)", c.ring(2), 2);
        undone("ringing", c, Look.full());
        c = Look.full();
        Due.is("hangUp(0)", c.hangUp(0), true);
        undone("hanging up while waiting", c, Look.full());
        c = Look.full();
        Due.is("hangUp(1)", c.hangUp(1), true);
        undone("hanging up while talking", c, Look.full());
        c = Look.full();
        Due.is("set(2, -99)", c.set(2, -99), true);
        undone("setting", c, Look.full());
        c = Look.full();
        Due.is("putOff(2, 999)", c.putOff(2, 999), true);
        undone("putting off", c, Look.full());
        middleOfTheQueue();
    }

    private static void middleOfTheQueue() {
        String six = "man a 1 0 0 0;man b 1 0 0 0;man c 1 0 0 0;man d 1 0 0 0;man e 1 0 0 0;man f 1 0 0 0;";
        for (int man = 0; man < 6; man++) {
            SpeakClock c = Due.told(six);
            for (int one = 0; one < 6; one++) {
                c.ring(one);
            }
            c.hangUp(man);
            Due.is("five are left", c.count(5), 5);
            Due.is("undo()", c.undo(), 6);
            for (int one = 0; one < 6; one++) {
                Due.is("place of " + one + ", hung up by " + man, c.man(one, 7), one);
            }
        }
        SpeakClock c = Due.told(six + "crowd 100;");
        c.go(38);
        c.ring(0);
        c.hangUp(0);
        c.ring(1);
        Due.is("b has the twentieth place", c.man(1, 7), 19);
        c.undo();
        c.undo();
        Due.is("a has it again", c.man(0, 7), 19);
        c.undo();
        Due.is("nobody has it", c.count(5), 19);
    }

    private static void undoneLatestFirst() {
        Due.by("Promise 39: The latest is undone: how many are left");
        SpeakClock c = Due.told(AB);
        c.set(0, 1);
        c.putOff(0, 60);
        c.set(0, 2);
        c.ring(0);
        c.hangUp(0);
        int[][] due = {{4, 1, 2, 60}, {3, 0, 2, 60}, {2, 0, 1, 60}, {1, 0, 1, 50}, {0, 0, 0, 50}};
        for (int[] one : due) {
            Due.is("left", c.undo(), one[0]);
            Due.is("what can be undone", c.count(13), one[0]);
            Due.is("waiting", c.count(5), one[1]);
            Due.is("off", c.man(0, 2), one[2]);
            Due.is("time", c.meeting(0, 2), one[3]);
        }
        Due.by("Promise 39: NONE: none");
        Due.is("undo()", c.undo(), -1);
        Due.is("undo() again", c.undo(), -1);
        Due.is("undo() of a new object", new SpeakClock().undo(), -1);
    }

    private static void twentyAtMost() {
        Due.by("==== 4: the latest first (20 at most)");
        for (int done : new int[] {19, 20, 21, 45}) {
            SpeakClock c = Due.told(AB);
            for (int i = 1; i <= done; i++) {
                c.set(1, i);
                Due.is("what can be undone", c.count(13), Math.min(i, 20));
            }
            int least = Math.max(0, done - 20);
            for (int i = done - 1; i >= least; i--) {
                Due.is("left of " + done, c.undo(), i - least);
                Due.is("off", c.man(1, 2), i);
            }
            Due.is("no more of " + done, c.undo(), -1);
            Due.is("off stays", c.man(1, 2), least);
        }
        SpeakClock c = Due.told(AB);
        c.ring(0);
        c.putOff(0, 70);
        for (int i = 1; i <= 19; i++) {
            c.set(1, i);
        }
        for (int i = 0; i < 20; i++) {
            c.undo();
        }
        Due.is("putting off is undone", c.meeting(0, 2), 50);
        Due.is("ringing is too far back", c.undo() * 10 + c.man(0, 4), -9);
        c = Due.told("man a 2 0 0 0;man b 1 0 0 0;man c 1 0 0 0;meet a b 50;meet a c 60;");
        c.set(2, 1);
        for (int i = 0; i < 5; i++) {
            c.ring(i % 3);
            c.hangUp(i % 3);
            c.putOff(i % 2, 70 + i);
            c.set((i + 1) % 3, 10 + i);
        }
        for (int i = 4; i >= 0; i--) {
            Due.is("off", c.man((i + 1) % 3, 2), 10 + i);
            c.undo();
            Due.is("time", c.meeting(i % 2, 2), 70 + i);
            c.undo();
            Due.is("hung up", c.man(i % 3, 4), 0);
            c.undo();
            Due.is("waits", c.man(i % 3, 4), 1);
            c.undo();
        }
        Due.is("the first one of 21 is too far back", c.undo() * 10 + c.man(2, 2), -9);
        Due.is("times", c.meeting(0, 2) * 100 + c.meeting(1, 2), 5060);
    }

    private static void ifNoMinuteWentBy() {
        Due.by("==== 4: can be undone, if no MINUTE went by since");
        SpeakClock c = Due.told(AB);
        c.set(0, 1);
        c.go(0);
        Due.is("none went by", c.count(13), 1);
        c.go(-1);
        c.go(201);
        Due.is("nor in what is refused", c.count(13), 1);
        c.ahead(200, 0, 0);
        c.delay(0);
        c.chance(1, 200, 0);
        c.tried(0, 0, 200);
        Due.is("nor in what is asked", c.count(13), 1);
        c.go(1);
        Due.is("one went by", c.count(13), 0);
        Due.is("undo()", c.undo(), -1);
        Due.is("off stays", c.man(0, 2), 1);
        c.set(0, 2);
        c.go(200);
        Due.is("two hundred went by", c.undo(), -1);
        c = Due.told(AB);
        for (int i = 0; i < 45; i++) {
            c.go(200);
        }
        c.set(0, 1);
        c.go(1);
        Due.is("none goes by behind 9000", c.undo(), 0);
    }

    private static void nothingToUndo() {
        Due.by("Promise 42: 13 what can be undone: nothing that was refused or only asked");
        SpeakClock c = Due.told(AB);
        c.ring(2);
        c.ring(-1);
        c.hangUp(0);
        c.hangUp(-1);
        c.set(0, 0);
        c.set(0, 100);
        c.set(2, 5);
        c.putOff(0, 50);
        c.putOff(0, 1000);
        c.putOff(1, 5);
        c.see(1, 0, 5, true);
        c.strike(0);
        c.known(1);
        c.keep();
        c.feed(1, 2, 3, 4, 5);
        Due.is("nothing", c.count(13), 0);
        c.ring(0);
        c.ring(0);
        Due.is("the second ring is refused", c.count(13), 1);
        Due.tell(c, "x");
        Due.is("a faulty text leaves it", c.count(13), 1);
        c.undo();
        Due.is("undo() can't be undone", c.undo(), -1);
        c.set(0, 1);
        Due.tell(c, AB);
        Due.by("Promise 3: nothing to undo then");
        Due.is("a text leaves nothing", c.undo(), -1);
        Due.by("Promise 41: nothing to undo then");
        c.keep();
        c.set(0, 1);
        c.back();
        Due.is("undo()", c.undo(), -1);
        c.set(0, 3);
        c.keep();
        Due.is("but keeping leaves it", c.undo(), 0);
    }

    private static void keep() {
        Due.by("Promise 40: An IMAGE is kept (in place of one ahead): which MINUTE it is");
        SpeakClock c = Due.told(AB);
        Due.is("keep() at first", c.keep(), 0);
        c.go(7);
        Due.is("back()", c.back(), 0);
        c.go(7);
        Due.is("keep() in 7", c.keep(), 7);
        c.go(5);
        Due.is("keep() in 12", c.keep(), 12);
        c.go(1);
        Due.is("back() to the later one", c.back(), 12);
        Due.is("back() once more", c.back(), 12);
        Due.is("the minute", c.count(4), 12);
        Due.is("keep() of a new object", new SpeakClock().keep(), 0);
        c = new SpeakClock();
        for (int i = 0; i < 45; i++) {
            c.go(200);
        }
        Due.is("keep() in 9000", c.keep(), 9000);
        Due.is("back() to it", c.back(), 9000);
    }

    private static void imageKeepsAll() {
        Due.by("Promise 41: All is as in the IMAGE (nothing to undo then): which MINUTE it is");
        SpeakClock kept = Look.full();
        SpeakClock not = Look.full();
        kept.go(1);
        not.go(1);
        kept.keep();
        not.keep();
        for (int man = 0; man < 3; man++) {
            kept.hangUp(man);
            kept.set(man, 77 + man);
            kept.putOff(man, 400 + man);
            kept.ring(man);
        }
        kept.go(111);
        kept.set(0, -98);
        kept.ring(2);
        Due.is("back()", kept.back(), 4);
        Due.is("all it answers", Look.at(kept), Look.at(not));
        Due.is("all it answers then, strangers by numbers, too", Look.andThen(kept), Look.andThen(not));
    }

    private static void imageKeepsNothingSeen() {
        Due.by("==== 4: An IMAGE keeps all but what was SEEN");
        SpeakClock c = Due.told(AB);
        c.see(1, 0, 400, true);
        c.keep();
        c.strike(0);
        c.back();
        Due.is("seen", c.count(11), 2);
        Due.is("struck", c.rates(0), 1023);
        c.keep();
        for (int i = 2; i < 24; i++) {
            c.see(1, 0, 400, true);
        }
        c.back();
        Due.is("24 are seen", c.count(11), 24);
        Due.is("there is no room", c.see(1, 0, 400, true), -1);
    }

    private static void backToNone() {
        Due.by("Promise 41: NONE: there is none");
        SpeakClock c = new SpeakClock();
        Due.is("a new object", c.back(), -1);
        Due.tell(c, AB);
        c.go(3);
        c.set(0, 5);
        Due.is("a text", c.back(), -1);
        Due.is("all stays", c.count(4) * 100 + c.man(0, 2) * 10 + c.count(13), 351);
        c.keep();
        Due.by("Promise 3: no IMAGE then");
        Due.tell(c, "x");
        Due.is("a faulty text leaves it", c.back(), 3);
        Due.tell(c, AB);
        Due.is("a text leaves none", c.back(), -1);
        c.keep();
        c.text(0);
        Due.is("an empty one leaves none", c.back(), -1);
    }

    private static void counts() {
        Due.by("Promise 42: 5 how many are in the QUEUE, 6 whether somebody TALKS, 7 how often TOLD in all, 10 strangers");
        SpeakClock c = Due.told(AB + "crowd 100;ring a 1;");
        int[][] due = {{0, 0, 0, 0}, {0, 1, 0, 1}, {2, 0, 0, 2}, {2, 1, 0, 3}, {3, 0, 1, 4}};
        for (int minutes = 0; minutes < due.length; minutes++) {
            int[] whats = {5, 6, 7, 10};
            for (int i = 0; i < 4; i++) {
                Due.is("count(" + whats[i] + ") behind " + minutes, c.count(whats[i]), due[minutes][i]);
            }
            c.go(1);
        }
        Due.by("Promise 42: 8 KEPT, 9 MISSED");
        c = Due.told("man a 1 5 0 0;man b 1 5 5 0;man c 1 5 6 0;meet a b 9;meet a c 9;meet b c 9;");
        c.go(9);
        Due.is("kept and missed, ahead", c.count(8) * 10 + c.count(9), 10);
        c.go(1);
        Due.is("kept and missed", c.count(8) * 10 + c.count(9), 21);
    }

    private static void countsOfWhatIsFull() {
        Due.by("Promise 42: 0 PEOPLE, 1 RINGS told, 2 MEETINGS, 3 KNOTS");
        StringBuilder text = new StringBuilder();
        for (int i = 0; i < 6; i++) {
            text.append("man ").append((char) ('a' + i)).append(" 1 0 0 0;");
        }
        text.append(Due.times("ring a 0;", 10)).append(Due.times("meet a b 0;", 6));
        text.append("law talk ").append(Due.times("1+", 31)).append("1;law late 1;");
        SpeakClock c = Due.told(text.toString());
        int[] full = {6, 10, 6, 64};
        for (int what = 0; what < 4; what++) {
            Due.is("count(" + what + ") of what is full", c.count(what), full[what]);
        }
        Due.tell(c, text + "law drift 1;");
        for (int what = 0; what < 4; what++) {
            Due.is("count(" + what + ") behind a 65th knot", c.count(what), full[what]);
        }
        c.text(0);
        for (int what = 0; what < 4; what++) {
            Due.is("count(" + what + ") of an empty text", c.count(what), 0);
        }
    }

    private static void countOfAnotherWhat() {
        Due.by("Promise 42: NONE for another what");
        SpeakClock c = Look.full();
        for (int what : new int[] {-1, 14, 15, MAX, MIN}) {
            Due.is("count(" + what + ")", c.count(what), -1);
        }
        for (int what = 0; what < 14; what++) {
            Due.is("count(" + what + ") is one", c.count(what) >= 0, true);
        }
    }
}
