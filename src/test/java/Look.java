import java.util.NoSuchElementException;

/** All that a clock answers, as one text: two clocks that look alike can't be told apart by it. */
final class Look {
    /** Strangers by numbers, laws, a cold, and a row of people: little of the document lies idle in it. */
    private static final String FULL = "man a 2 5 3 1;man b 3 30 -10 -2;man c 1 0 20 0;ring a 0;ring b 2;ring c 30;"
            + "meet a b 60;meet b c 25;meet a c 300;cold 5 9;crowd 30;seed 77;law talk talks+queue;law late 0-queue-told;"
            + "law drift rate;";

    private Look() {
    }

    /** A clock with something of everything: MINUTE 3, an IMAGE of it, things to undo, things SEEN, a FAULT. */
    static SpeakClock full() {
        SpeakClock c = Due.told(FULL);
        c.see(20, 0, 24, true);
        c.see(35, 1, 30, false);
        c.strike(1);
        c.known(2);
        c.go(3);
        c.keep();
        c.set(0, 5);
        c.putOff(0, 70);
        c.ring(0);
        Due.tell(c, "cold 9 8;");
        return c;
    }

    /** The same, and "seed 1;" waits on its TAPE. */
    static SpeakClock fullAndFed() {
        SpeakClock c = full();
        c.feed(0x73656564, 0x20313b20, 0x20202020, 0x20202020, 0x20202020);
        return c;
    }

    /** Asks only, so that the clock is as it was. */
    static String at(SpeakClock c) {
        StringBuilder s = new StringBuilder();
        for (int what = 0; what < 14; what++) {
            s.append(" count").append(what).append('=').append(c.count(what));
        }
        s.append("\nfault ").append(c.fault(0)).append(" at ").append(c.fault(1));
        for (int man = 0; man < c.count(0); man++) {
            s.append('\n').append(man(c, man));
        }
        for (int m = 0; m < c.count(2); m++) {
            s.append("\nmeeting");
            for (int what = 0; what < 6; what++) {
                s.append(' ').append(c.meeting(m, what));
            }
        }
        s.append("\nqueue");
        for (int k = 0; k < c.count(5); k++) {
            s.append(' ').append(c.queue(k));
        }
        s.append("\nas it goes ").append(c.ahead(50, 0, 0)).append(' ').append(c.ahead(50, 1, 0)).append(' ')
                .append(c.ahead(5, 3, 0)).append(' ').append(c.certain()).append(' ').append(c.quiet());
        return s.toString();
    }

    private static String man(SpeakClock c, int man) {
        StringBuilder s = new StringBuilder("man");
        try {
            for (int what = 0; what < 8; what++) {
                s.append(' ').append(c.man(man, what));
            }
        } catch (IndexOutOfBoundsException | NoSuchElementException e) {
            s.append(" throws");
        }
        for (int what = 0; what < 3; what++) {
            s.append(' ').append(c.law(what, man));
        }
        return s.append(' ').append(c.shows(man)).append(' ').append(c.there(man)).append(' ').append(c.rates(man))
                .append(' ').append(c.ahead(25, 2, man)).toString();
    }

    /** What becomes of it: the TAPE, what is undone, minutes by numbers, what will be SEEN, the IMAGE. */
    static String andThen(SpeakClock c) {
        StringBuilder s = new StringBuilder();
        s.append("feed ").append(c.feed(0x20202020, 0x20202020, 0x20202020, 0x20202020, 0x20202020));
        s.append("\nsee ").append(c.see(5, 0, 0, true)).append(" known by ").append(c.count(12)).append("\nundo");
        for (int i = 0; i < 22; i++) {
            s.append(' ').append(c.undo());
        }
        s.append('\n').append(at(c));
        s.append("\ngo ").append(c.go(40)).append('\n').append(at(c));
        s.append("\nback ").append(c.back()).append('\n').append(at(c));
        return s.append("\ntext ").append(c.text(20)).append(' ').append(c.fault(0)).append(' ').append(c.fault(1))
                .toString();
    }
}
