/** Promises 39 to 42: undone, images, counts. */
public final class BackTest {
    public static void main(String[] args) {
        undo();
        undoOfAQueue();
        undoTwenty();
        undoTillAMinute();
        keepAndBack();
        backWithNumbers();
        count();
        Due.end();
    }

    private static void undo() {
        SpeakClock c = Due.told(Due.THREE);
        Due.is("undo() of nothing", c.undo(), -1);
        c.set(0, 5);
        c.set(0, 6);
        c.putOff(0, 40);
        c.set(9, 9);
        c.putOff(0, 40);
        c.hangUp(0);
        Due.is("three done", c.count(13), 3);
        Due.is("undo() of putting off", c.undo(), 2);
        Due.is("time", c.meeting(0, 2), 20);
        Due.is("undo() of setting", c.undo(), 1);
        Due.is("off 5", c.man(0, 2), 5);
        Due.is("undo() of the first one", c.undo(), 0);
        Due.is("off 0", c.man(0, 2), 0);
        Due.is("undo() of no more", c.undo(), -1);
    }

    private static void undoOfAQueue() {
        SpeakClock c = Due.told("man a 5 5 0 0;man b 5 5 0 0;man c 5 5 0 0;man d 5 5 0 0;");
        c.ring(0);
        c.ring(1);
        c.ring(2);
        c.go(1);
        c.hangUp(1);
        c.hangUp(0);
        Due.is("ring(1) anew", c.ring(1), 1);
        Due.is("undo() of ringing", c.undo(), 2);
        Due.is("b is idle", c.man(1, 4), 0);
        Due.is("b has one ahead, as when it rang ahead of that", c.man(1, 5), 1);
        Due.is("undo() of hanging up", c.undo(), 1);
        Due.is("a talks", c.man(0, 4), 2);
        Due.is("undo() of the other one", c.undo(), 0);
        Due.is("b is first again", c.man(1, 7), 0);
        Due.is("c is second again", c.man(2, 7), 1);
        c.go(3);
        Due.is("a isn't told yet", c.man(0, 6), 0);
        c.go(1);
        Due.is("a is told in its fifth minute", c.man(0, 6), 1);
        Due.is("ring(0)", c.ring(0), 2);
        c.undo();
        Due.is("ahead is what it was", c.man(0, 5), 0);
        c.ring(3);
        c.hangUp(2);
        c.hangUp(3);
        c.undo();
        c.undo();
        Due.is("places", c.man(1, 7) * 100 + c.man(2, 7) * 10 + c.man(3, 7), 12);
    }

    private static void undoTwenty() {
        SpeakClock c = Due.told("man a 5 5 0 0;");
        for (int i = 1; i <= 25; i++) {
            c.set(0, i);
        }
        Due.is("20 at most", c.count(13), 20);
        for (int i = 24; i >= 5; i--) {
            Due.is("left", c.undo(), i - 5);
            Due.is("off", c.man(0, 2), i);
        }
        Due.is("no more", c.undo(), -1);
        Due.is("off stays", c.man(0, 2), 5);
    }

    private static void undoTillAMinute() {
        SpeakClock c = Due.told("man a 5 5 0 0;");
        c.set(0, 3);
        c.go(0);
        Due.is("no minute went by", c.count(13), 1);
        c.go(-1);
        c.go(201);
        Due.is("nor here", c.count(13), 1);
        c.see(1, 0, 1, true);
        c.keep();
        Due.is("an image leaves it", c.count(13), 1);
        c.go(1);
        Due.is("a minute went by", c.count(13), 0);
        Due.is("undo()", c.undo(), -1);
    }

    private static void keepAndBack() {
        SpeakClock c = Due.told(Due.THREE);
        Due.is("back() to none", c.back(), -1);
        c.go(3);
        c.set(2, 7);
        c.putOff(0, 50);
        Due.is("keep()", c.keep(), 3);
        c.undo();
        c.hangUp(2);
        c.go(30);
        c.set(0, 9);
        Due.is("back()", c.back(), 3);
        Due.is("nothing to undo", c.undo(), -1);
        Due.is("off", c.man(2, 2), 7);
        Due.is("waiting", c.man(2, 4), 1);
        Due.is("b talks", c.man(1, 4), 2);
        Due.is("ahead", c.man(2, 5), 2);
        Due.is("time", c.meeting(0, 2), 50);
        Due.is("nobody came to the first one", c.meeting(0, 4), -1);
        Due.is("c came to the second one", c.meeting(1, 5), 0);
        Due.is("not missed", c.count(9), 0);
        Due.is("told", c.count(7), 1);
        c.go(2);
        Due.is("b is told as at first", c.man(1, 6), 1);
        Due.is("the image is still there", c.back(), 3);
        c.go(5);
        Due.is("keep() in place of it", c.keep(), 8);
        c.go(5);
        Due.is("back() to the later one", c.back(), 8);
        c.see(5, 0, 5, true);
        c.back();
        Due.is("what was seen stays", c.count(11), 1);
        Due.tell(c, "x");
        Due.is("a faulty text leaves the image", c.back(), 8);
        Due.tell(c, Due.THREE);
        Due.is("a text leaves none", c.back(), -1);
    }

    private static void backWithNumbers() {
        SpeakClock c = Due.told("man a 1 1 1 1;crowd 30;seed 9;");
        c.go(20);
        c.keep();
        c.go(100);
        int rang = c.count(10);
        int waiting = c.count(5);
        c.back();
        c.go(100);
        Due.is("the same strangers ring", c.count(10), rang);
        Due.is("and wait", c.count(5), waiting);
    }

    private static void count() {
        SpeakClock c = Due.told(Due.THREE + "law talk talks;law late 0-(queue+1)/2;");
        int[] atFirst = {3, 3, 2, 8, 0, 0, 0, 0, 0, 0, 0, 0, 0, 0};
        for (int what = 0; what < 14; what++) {
            Due.is("count(" + what + ")", c.count(what), atFirst[what]);
        }
        c.see(1, 1, 1, true);
        c.see(1, 1, 1, true);
        c.known(1);
        c.go(2);
        c.set(1, 1);
        int[] then = {3, 3, 2, 8, 2, 2, 0, 1, 0, 0, 0, 2, 1, 1};
        for (int what = 0; what < 14; what++) {
            Due.is("count(" + what + ") in minute 2", c.count(what), then[what]);
        }
        Due.is("count(14)", c.count(14), -1);
        Due.is("count(-1)", c.count(-1), -1);
        c = Due.told("crowd 100;");
        c.go(3);
        Due.is("a stranger talks", c.count(6), 1);
        Due.is("strangers are not told", c.count(7), 0);
        Due.is("two wait", c.count(5), 1);
        Due.is("three rang", c.count(10), 3);
    }
}
