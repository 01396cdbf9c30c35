import java.nio.charset.StandardCharsets;

/** What the tests share: answers that are due, and texts fed to a clock. */
final class Due {
    /** Three people, two meetings: a is TOLD in minute 1, b in 4, c in 5; b and a meet in 20, c comes far too early. */
    static final String THREE = "man a 2 5 0 0;man b 3 5 -10 1;man c 1 30 20 -2;ring a 0;ring b 0;ring c 1;"
            + "meet a b 20;meet a c 15;";

    private static int wrong = 0;
    private static int asked = 0;
    private static int sentences = 0;
    private static String sentence = "";

    private Due() {
    }

    /** What is asked from here on is due by this sentence of the document. */
    static void by(String words) {
        sentence = words + ": ";
        sentences++;
    }

    static void is(String call, long got, long due) {
        asked++;
        if (got != due) {
            wrong++;
            System.out.println(sentence + call + " answered " + got + ", due is " + due);
        }
    }

    /** Of texts of many lines only the first one that isn't as due is told. */
    static void is(String call, String got, String due) {
        asked++;
        if (got.equals(due)) {
            return;
        }
        wrong++;
        String[] lines = got.split("\n");
        String[] dueLines = due.split("\n");
        int at = 0;
        while (at < lines.length - 1 && at < dueLines.length - 1 && lines[at].equals(dueLines[at])) {
            at++;
        }
        System.out.println(sentence + call + " answered \"" + lines[at] + "\", due is \"" + dueLines[at] + "\"");
    }

    static void is(String call, boolean got, boolean due) {
        is(call, got ? 1 : 0, due ? 1 : 0);
    }

    static void end() {
        String asDue = asked + " answers are as due" + (sentences > 0 ? ", by " + sentences + " sentences" : "");
        System.out.println(wrong == 0 ? asDue : wrong + " answers are not as due");
        if (wrong != 0) {
            System.exit(1);
        }
    }

    /** Feeds a text (blanks fill the last twenty bytes) and answers what text() answers to its length. */
    static int tell(SpeakClock clock, String text) {
        return clock.text(feed(clock, text));
    }

    /** Feeds a text: how long it is. */
    static int feed(SpeakClock clock, String text) {
        byte[] bytes = text.getBytes(StandardCharsets.ISO_8859_1);
        for (int at = 0; at < bytes.length; at += 20) {
            int[] five = new int[5];
            for (int i = 0; i < 20; i++) {
                five[i / 4] = five[i / 4] << 8 | (at + i < bytes.length ? bytes[at + i] & 255 : 32);
            }
            clock.feed(five[0], five[1], five[2], five[3], five[4]);
        }
        return bytes.length;
    }

    static SpeakClock told(String text) {
        SpeakClock clock = new SpeakClock();
        if (tell(clock, text) < 0) {
            is("text of \"" + text + "\", fault " + clock.fault(0) + " at " + clock.fault(1), -1, 0);
        }
        return clock;
    }

    /** The text has this FAULT at this place. */
    static void faulty(String text, int fault, int place) {
        SpeakClock clock = new SpeakClock();
        is("text \"" + text + "\"", tell(clock, text), -1);
        is("fault(0) of \"" + text + "\"", clock.fault(0), fault);
        is("fault(1) of \"" + text + "\"", clock.fault(1), place);
    }

    static void fine(String text, int lines) {
        SpeakClock clock = new SpeakClock();
        is("text \"" + text + "\"", tell(clock, text), lines);
        is("fault(0) of \"" + text + "\"", clock.fault(0), 0);
        is("fault(1) of \"" + text + "\"", clock.fault(1), -1);
    }

    static String times(String part, int n) {
        StringBuilder s = new StringBuilder();
        for (int i = 0; i < n; i++) {
            s.append(part);
        }
        return s.toString();
    }
}
