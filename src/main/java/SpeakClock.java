import java.util.NoSuchElementException;

/**
 * The speaking clock: people ring her, wait in a row, are told the time, and keep or miss their meetings.
 * The words in capitals are those of the document. All rows are made with the object and used again.
 */
public final class SpeakClock {
    public static final int NONE = -1;

    private static final int REFUSED = -2;
    private static final int STRANGER = -2;

    private static final int TAPE_BYTES = 700;
    private static final int FED_BYTES = 20;
    private static final int MOST_PEOPLE = 6;
    private static final int MOST_RINGS = 10;
    private static final int MOST_MEETINGS = 6;
    private static final int MOST_COLDS = 3;
    private static final int MOST_IN_ROW = 20;
    private static final int MOST_KNOTS = 64;
    private static final int MOST_OPEN = 8;
    private static final int MOST_IN_LAW = 9999;
    private static final int MOST_SEEN = 24;
    private static final int MOST_UNDONE = 20;
    private static final int MOST_LETTERS = 6;
    private static final int LETTER_BITS = 5;

    private static final int LAST_MINUTE = 9000;
    private static final int FAR = 200;
    private static final int NEXT_TOLD = 99;
    private static final int NEAR_MINUTES = 60;
    private static final int MOST_BOUND = 60;
    private static final int LATEST_RING = 60;
    private static final int MOST_LATER = 60;
    private static final int MOST_TIME = 999;
    private static final int LONG_WAIT = 30;

    private static final int CROWD_AS_IT_GOES = 50;
    private static final int HUNDRED = 100;
    private static final int LONGEST_CALL = 20;
    private static final int STRANGER_TALKS = 2;
    private static final int MOST_LATE = 30;
    private static final int MOST_DRIFT = 9;
    private static final int MOST_OFF = 99;
    private static final int DRAWN = 10;
    private static final int TRIED_RATES = 10;
    private static final int LEAST_RATE = -4;
    private static final int MOST_TIMES = 4;

    private static final int NOT_YET = 0;
    private static final int KEPT = 1;
    private static final int MISSED = 2;

    private static final int IDLE = 0;
    private static final int WAITING = 1;
    private static final int TALKING = 2;

    private static final int LAWS = 3;
    private static final int LAW_OF_TALK = 0;
    private static final int LAW_OF_LATE = 1;
    private static final int LAW_OF_DRIFT = 2;

    private static final int CANT_STAND = 1;
    private static final int TOO_MUCH = 2;
    private static final int TOLD_ALREADY = 3;
    private static final int NOT_TOLD = 4;
    private static final int WITH_ONESELF = 5;

    private static final int END = 0;
    private static final int NO_TOKEN = 1;
    private static final int NUMBER = 2;
    private static final int OWN_WORD = 3;
    private static final int SEMICOLON = 4;
    private static final int OPEN = 5;
    private static final int CLOSE = 6;
    private static final int PLUS = 7;
    private static final int MINUS = 8;
    private static final int TIMES = 9;
    private static final int BY = 10;
    private static final int LESS = 11;
    private static final int AT_MOST = 12;
    private static final int EQUAL = 13;
    private static final int UNLIKE = 14;
    private static final int AT_LEAST = 15;
    private static final int MORE = 16;
    private static final int MAN = 17;
    private static final int RING = 18;
    private static final int MEET = 19;
    private static final int COLD = 20;
    private static final int CROWD = 21;
    private static final int SEED = 22;
    private static final int LAW = 23;
    private static final int TALK = 24;
    private static final int DRIFT = 26;
    private static final int OR = 27;
    private static final int AND = 28;
    private static final int NOT = 29;
    private static final int FIRST_NAME = 30;
    private static final int NAMES = 7;

    /** The words of the language, six signs each, in the order of their kinds from MAN on. */
    private static final String WORDS =
            "man   ring  meet  cold  crowd seed  law   talk  late  drift or    and   not   talks waits off   rate  queue told  minute";
    private static final int MANY_WORDS = 20;

    private static final int LEVEL_OF_NOT = 3;
    private static final int LEVEL_OF_COMPARISON = 4;

    private static final long MOST_VALUE = 1000000000000L;
    private static final long ERROR = Long.MIN_VALUE;

    private static final int RANG = 0;
    private static final int LEFT_ROW = 1;
    private static final int LEFT_HER = 2;
    private static final int SET = 3;
    private static final int PUT_OFF = 4;

    private final LineReader reader = new LineReader();
    private final byte[] tape = reader.tokens.tape;
    private final Day now = new Day();
    private final Day image = new Day();
    private final Day trial = new Day();
    private final Day later = new Day();
    private final Way way = new Way();
    private final Seen seen = new Seen();
    private final Log log = new Log();
    private Plan plan = way.plan;
    private int taped = 0;
    private int fault = 0;
    private int faultPlace = NONE;
    private boolean hasImage = false;

    public SpeakClock() {
    }

    public int feed(int a, int b, int c, int d, int e) {
        if (taped + FED_BYTES > TAPE_BYTES) {
            return NONE;
        }
        tapeFour(a);
        tapeFour(b);
        tapeFour(c);
        tapeFour(d);
        tapeFour(e);
        return taped;
    }

    public int text(int n) {
        if (n < 0 || n > taped) {
            return REFUSED;
        }
        taped = 0;
        boolean fine = reader.readsAll(n);
        fault = reader.fault;
        faultPlace = reader.place;
        if (!fine) {
            return NONE;
        }
        Plan before = plan;
        plan = reader.plan;
        way.plan = plan;
        // the plan that is told no longer is the one that the next TEXT is read into
        reader.plan = before;
        now.begin(plan);
        seen.forget();
        log.size = 0;
        hasImage = false;
        return reader.lines;
    }

    public int fault(int what) {
        if (what == 0) {
            return fault;
        }
        return what == 1 ? faultPlace : NONE;
    }

    public int named(int letters) {
        return plan.numberOf(letters);
    }

    public int man(int man, int what) throws IndexOutOfBoundsException, NoSuchElementException {
        if (!isPerson(man)) {
            throw new IndexOutOfBoundsException("no such PERSON");
        }
        switch (what) {
            case 0:
                return plan.talks[man];
            case 1:
                return plan.waits[man];
            case 2:
                return now.off[man];
            case 3:
                return plan.rates[man];
            case 4:
                return now.modeOf(man);
            case 5:
                return now.ahead[man];
            case 6:
                return now.told[man];
            case 7:
                return now.placeOf(man);
            default:
                throw new NoSuchElementException("no such what");
        }
    }

    public int meeting(int meeting, int what) {
        if (!isMeeting(meeting)) {
            return NONE;
        }
        switch (what) {
            case 0:
                return plan.meetOne[meeting];
            case 1:
                return plan.meetOther[meeting];
            case 2:
                return now.time[meeting];
            case 3:
                return now.outcome[meeting];
            case 4:
                return now.cameOne[meeting];
            case 5:
                return now.cameOther[meeting];
            default:
                return NONE;
        }
    }

    public int shows(int man) {
        return isPerson(man) ? now.minute + now.off[man] : Integer.MIN_VALUE;
    }

    public long law(int what, int man) {
        if (what < 0 || what >= LAWS || !isPerson(man)) {
            return Long.MIN_VALUE;
        }
        way.follow(false);
        return way.lawOf(now, what, man, what == LAW_OF_LATE ? now.ahead[man] : now.inRow);
    }

    public int ring(int man) {
        if (!isPerson(man)) {
            return NONE;
        }
        int aheadBefore = now.ahead[man];
        if (!now.takesIn(man)) {
            return REFUSED;
        }
        log.note(RANG, man, aheadBefore);
        return now.ahead[man];
    }

    public boolean hangUp(int man) {
        if (!isPerson(man)) {
            return false;
        }
        if (now.talker == man) {
            log.note(LEFT_HER, man, now.left);
            now.talker = NONE;
            now.left = 0;
            return true;
        }
        int place = now.placeOf(man);
        if (place == NONE) {
            return false;
        }
        log.note(LEFT_ROW, man, place);
        now.takeOut(place);
        return true;
    }

    public boolean set(int man, int off) {
        if (!isPerson(man) || off < -MOST_OFF || off > MOST_OFF || now.off[man] == off) {
            return false;
        }
        log.note(SET, man, now.off[man]);
        now.off[man] = off;
        return true;
    }

    public boolean putOff(int meeting, int time) {
        if (!isMeeting(meeting) || time < 0 || time > MOST_TIME) {
            return false;
        }
        if (now.isOneThere(meeting) || now.time[meeting] == time) {
            return false;
        }
        log.note(PUT_OFF, meeting, now.time[meeting]);
        now.time[meeting] = time;
        return true;
    }

    public int go(int n) {
        if (n < 0 || n > FAR || now.minute + n > LAST_MINUTE) {
            return NONE;
        }
        way.follow(true);
        for (int i = 0; i < n; i++) {
            way.passMinute(now);
        }
        if (n > 0) {
            log.size = 0;
        }
        return now.minute;
    }

    public int ahead(int n, int what, int man) {
        if (n < 0 || n > FAR || what < 0 || what > 3 || what == 2 && !isPerson(man)) {
            return Integer.MIN_VALUE;
        }
        startTrial();
        passTrial(n);
        switch (what) {
            case 0:
                return trial.howMany(KEPT) - now.howMany(KEPT);
            case 1:
                return trial.howMany(MISSED) - now.howMany(MISSED);
            case 2:
                return trial.off[man];
            default:
                return trial.inRow;
        }
    }

    public int delay(int man) {
        if (!isPerson(man)) {
            return NONE;
        }
        startTrial();
        trial.takesIn(man);
        return minutesTillTold(man);
    }

    public int bestRing(int man, int n, int what) {
        if (!isPerson(man) || n < 0 || n > LATEST_RING || what < 0 || what > 1) {
            return NONE;
        }
        way.follow(false);
        later.copy(now);
        int best = REFUSED;
        int fewest = NEXT_TOLD + 1;
        for (int k = 0; k <= n; k++) {
            trial.copy(later);
            if (trial.takesIn(man)) {
                int minutes = minutesTillTold(man);
                if (minutes != REFUSED && minutes < fewest) {
                    fewest = minutes;
                    best = k;
                }
            }
            way.passMinute(later);
        }
        return what == 0 || best == REFUSED ? best : fewest;
    }

    public int near(int bound) {
        if (bound < 0 || bound > MOST_BOUND) {
            return NONE;
        }
        int all = (1 << plan.people) - 1;
        for (int size = 0; size <= plan.people; size++) {
            for (int ringing = 0; ringing <= all; ringing++) {
                if (Integer.bitCount(ringing) == size && spreadIfRinging(ringing) <= bound) {
                    return ringing;
                }
            }
        }
        return REFUSED;
    }

    public int liars(int bound) {
        if (bound < 0 || bound > MOST_BOUND) {
            return NONE;
        }
        int all = (1 << plan.people) - 1;
        for (int size = 0; size <= plan.people; size++) {
            for (int without = 0; without <= all; without++) {
                if (Integer.bitCount(without) == size && now.spread(all & ~without) <= bound) {
                    return without;
                }
            }
        }
        return all;
    }

    public int median() {
        for (int man = 0; man < plan.people; man++) {
            if (now.howManySlower(man) == plan.people / 2) {
                return man;
            }
        }
        return NONE;
    }

    public int agree(int bound) {
        if (bound < 0 || bound > MOST_BOUND) {
            return NONE;
        }
        int all = (1 << plan.people) - 1;
        startTrial();
        for (int minutes = 0; minutes <= NEXT_TOLD; minutes++) {
            if (trial.spread(all) <= bound) {
                return minutes;
            }
            way.passMinute(trial);
        }
        return REFUSED;
    }

    public int needs(int meeting) {
        if (!isMeeting(meeting) || now.isOneThere(meeting)) {
            return NONE;
        }
        for (int put = 0; put <= MOST_LATER; put++) {
            startTrial();
            trial.time[meeting] += put;
            if (isKeptInTrial(meeting)) {
                return put;
            }
        }
        return REFUSED;
    }

    public int certain() {
        startTrial();
        passTrial(FAR);
        int bits = 0;
        for (int m = 0; m < plan.meetings; m++) {
            if (trial.outcome[m] == KEPT) {
                bits |= 1 << m;
            }
        }
        return bits;
    }

    public int latest() {
        int slowest = NONE;
        for (int man = 0; man < plan.people; man++) {
            if (slowest == NONE || now.off[man] < now.off[slowest]) {
                slowest = man;
            }
        }
        return slowest;
    }

    public int rests(int one, int other) {
        if (!areTwo(one, other)) {
            return NONE;
        }
        int found = 0;
        for (int pair = 0; pair < MOST_TIMES * MOST_TIMES; pair++) {
            if (isRest(one, other, pair)) {
                found++;
            }
        }
        return found;
    }

    public int rest(int one, int other, int k) {
        if (!areTwo(one, other) || k < 0) {
            return NONE;
        }
        int found = 0;
        for (int pair = 0; pair < MOST_TIMES * MOST_TIMES; pair++) {
            if (isRest(one, other, pair)) {
                if (found == k) {
                    return 10 * (pair / MOST_TIMES + 1) + pair % MOST_TIMES + 1;
                }
                found++;
            }
        }
        return REFUSED;
    }

    public int apart(int one, int other) {
        if (!isPerson(one) || !isPerson(other)) {
            return NONE;
        }
        return Math.abs(now.off[one] - now.off[other]);
    }

    public int quiet() {
        startTrial();
        for (int minutes = 0; minutes <= FAR; minutes++) {
            if (trial.inRow == 0 && trial.talker == NONE) {
                return minutes;
            }
            way.passMinute(trial);
        }
        return REFUSED;
    }

    public int firstMissed(int what) {
        if (what < 0 || what > 1) {
            return NONE;
        }
        startTrial();
        for (int minutes = 1; minutes <= FAR; minutes++) {
            way.passMinute(trial);
            for (int m = 0; m < plan.meetings; m++) {
                if (trial.outcome[m] == MISSED && now.outcome[m] != MISSED) {
                    return what == 0 ? minutes : m;
                }
            }
        }
        return REFUSED;
    }

    public int longest(int n) {
        if (n < 0 || n > FAR) {
            return NONE;
        }
        startTrial();
        // now is behind 0 MINUTES, so its QUEUE is one of those looked at
        int most = now.inRow;
        for (int i = 0; i < n; i++) {
            way.passMinute(trial);
            most = Math.max(most, trial.inRow);
        }
        return most;
    }

    public int queue(int k) {
        return k < 0 || k >= now.inRow ? NONE : now.row[k];
    }

    public int there(int man) {
        if (!isPerson(man)) {
            return NONE;
        }
        int bits = 0;
        for (int m = 0; m < plan.meetings; m++) {
            boolean asOne = plan.meetOne[m] == man && now.cameOne[m] != NONE;
            boolean asOther = plan.meetOther[m] == man && now.cameOther[m] != NONE;
            if (asOne || asOther) {
                bits |= 1 << m;
            }
        }
        return bits;
    }

    public int see(int minutes, int man, int shown, boolean atLeast) {
        if (minutes < 1 || minutes > 99 || !isPerson(man) || shown < -200 || shown > 400) {
            return NONE;
        }
        return seen.addSight(minutes, man, shown, atLeast);
    }

    public int strike(int seen) {
        return this.seen.addStrike(seen);
    }

    public boolean known(int n) {
        if (n < -1 || n > seen.size) {
            return false;
        }
        seen.known = n;
        return true;
    }

    public int rates(int man) {
        if (!isPerson(man)) {
            return NONE;
        }
        seen.judge();
        int bits = 0;
        for (int k = 0; k < TRIED_RATES; k++) {
            way.follow(false);
            way.rates[man] = LEAST_RATE + k;
            if (isAllSeenSo()) {
                bits |= 1 << k;
            }
        }
        return bits;
    }

    public int chance(int seed, int n, int meeting) {
        if (seed < 0 || n < 1 || n > FAR || !isMeeting(meeting)) {
            return NONE;
        }
        way.follow(true);
        int last = seed;
        int kept = 0;
        for (int i = 0; i < DRAWN; i++) {
            trial.copy(now);
            trial.number = last;
            passTrial(n);
            last = trial.number;
            if (trial.outcome[meeting] == KEPT) {
                kept++;
            }
        }
        return kept;
    }

    public int tried(int what, int i, int n) {
        if (what < 0 || what > 4 || n < 0 || n > FAR) {
            return NONE;
        }
        if (what == 2 ? !isPerson(i) : i != 0) {
            return NONE;
        }
        startTrial();
        way.change(what, i);
        passTrial(n);
        return trial.howMany(KEPT) - now.howMany(KEPT);
    }

    public int undo() {
        if (log.size <= 0) {
            return NONE;
        }
        log.size--;
        int who = log.who[log.size];
        int old = log.old[log.size];
        switch (log.act[log.size]) {
            case RANG:
                now.takeOut(now.placeOf(who));
                now.ahead[who] = old;
                break;
            case LEFT_ROW:
                now.putIn(old, who);
                break;
            case LEFT_HER:
                now.talker = who;
                now.left = old;
                break;
            case SET:
                now.off[who] = old;
                break;
            default:
                now.time[who] = old;
                break;
        }
        return log.size;
    }

    public int keep() {
        image.copy(now);
        hasImage = true;
        return now.minute;
    }

    public int back() {
        if (!hasImage) {
            return NONE;
        }
        now.copy(image);
        log.size = 0;
        return now.minute;
    }

    public int count(int what) {
        switch (what) {
            case 0:
                return plan.people;
            case 1:
                return plan.rings;
            case 2:
                return plan.meetings;
            case 3:
                return plan.laws.knots;
            case 4:
                return now.minute;
            case 5:
                return now.inRow;
            case 6:
                return now.talker == NONE ? 0 : 1;
            case 7:
                return now.toldInAll();
            case 8:
                return now.howMany(KEPT);
            case 9:
                return now.howMany(MISSED);
            case 10:
                return now.strangers;
            case 11:
                return seen.size;
            case 12:
                return seen.knownBy();
            case 13:
                return log.size;
            default:
                return NONE;
        }
    }

    private void tapeFour(int bytes) {
        for (int shift = 24; shift >= 0 && taped < TAPE_BYTES; shift -= 8) {
            tape[taped] = (byte) (bytes >> shift);
            taped++;
        }
    }

    private boolean isPerson(int man) {
        return man >= 0 && man < plan.people;
    }

    private boolean isMeeting(int meeting) {
        return meeting >= 0 && meeting < plan.meetings;
    }

    private boolean areTwo(int one, int other) {
        return isPerson(one) && isPerson(other) && one != other;
    }

    /** The trial day is as it is now, and goes on without numbers. */
    private void startTrial() {
        way.follow(false);
        trial.copy(now);
    }

    private void passTrial(int minutes) {
        for (int i = 0; i < minutes; i++) {
            way.passMinute(trial);
        }
    }

    private int minutesTillTold(int man) {
        int before = trial.told[man];
        for (int minutes = 1; minutes <= NEXT_TOLD; minutes++) {
            way.passMinute(trial);
            if (trial.told[man] > before) {
                return minutes;
            }
        }
        return REFUSED;
    }

    private int spreadIfRinging(int ringing) {
        startTrial();
        for (int man = 0; man < plan.people; man++) {
            if ((ringing >> man & 1) == 1) {
                trial.takesIn(man);
            }
        }
        for (int i = 0; i < NEAR_MINUTES; i++) {
            way.passMinute(trial);
        }
        return trial.spread((1 << plan.people) - 1);
    }

    private boolean isKeptInTrial(int meeting) {
        for (int i = 0; i < FAR && trial.outcome[meeting] == NOT_YET; i++) {
            way.passMinute(trial);
        }
        return trial.outcome[meeting] == KEPT;
    }

    private boolean isAllSeenSo() {
        trial.begin(plan);
        int last = seen.lastMinute();
        for (int i = 0; i < last; i++) {
            way.passMinute(trial);
            if (!seen.isSo(trial)) {
                return false;
            }
        }
        return true;
    }

    private boolean isRest(int one, int other, int pair) {
        int oneTalks = plan.talks[one];
        int otherTalks = plan.talks[other];
        int ofOne = oneTalks * (pair / MOST_TIMES + 1);
        int ofOther = otherTalks * (pair % MOST_TIMES + 1);
        for (int times = 1; times <= MOST_TIMES; times++) {
            if (gain(times * oneTalks, ofOther) > gain(ofOne, ofOther)
                    || gain(times * otherTalks, ofOne) > gain(ofOther, ofOne)) {
                return false;
            }
        }
        return true;
    }

    private static int gain(int ownMinutes, int othersMinutes) {
        int prize = 0;
        if (ownMinutes > othersMinutes) {
            prize = 6;
        } else if (ownMinutes == othersMinutes) {
            prize = 2;
        }
        return prize - ownMinutes / 4;
    }

    private static long within(long value, long least, long most) {
        return Math.max(least, Math.min(most, value));
    }

    /** What a TEXT tells. */
    private static final class Plan {
        final int[] names = new int[MOST_PEOPLE];
        final int[] talks = new int[MOST_PEOPLE];
        final int[] waits = new int[MOST_PEOPLE];
        final int[] offs = new int[MOST_PEOPLE];
        final int[] rates = new int[MOST_PEOPLE];
        final int[] ringMan = new int[MOST_RINGS];
        final int[] ringMinute = new int[MOST_RINGS];
        final int[] meetOne = new int[MOST_MEETINGS];
        final int[] meetOther = new int[MOST_MEETINGS];
        final int[] meetTime = new int[MOST_MEETINGS];
        final int[] coldFrom = new int[MOST_COLDS];
        final int[] coldTo = new int[MOST_COLDS];
        final Laws laws = new Laws();
        int people = 0;
        int rings = 0;
        int meetings = 0;
        int colds = 0;
        int crowd = 0;
        int seed = 0;

        void clear() {
            people = 0;
            rings = 0;
            meetings = 0;
            colds = 0;
            crowd = 0;
            seed = 0;
            laws.clear();
        }

        int numberOf(int letters) {
            for (int man = 0; man < people; man++) {
                if (names[man] == letters) {
                    return man;
                }
            }
            return NONE;
        }
    }

    /** The laws as steps over a stack of values: no depth of calls grows with an E. */
    private static final class Laws {
        final int[] step = new int[MOST_KNOTS];
        final int[] number = new int[MOST_KNOTS];
        final int[] from = new int[LAWS];
        final int[] to = new int[LAWS];
        final long[] stack = new long[MOST_KNOTS];
        int size = 0;
        int knots = 0;

        void clear() {
            size = 0;
            knots = 0;
            for (int law = 0; law < LAWS; law++) {
                from[law] = 0;
                to[law] = 0;
            }
        }

        boolean isTold(int law) {
            return to[law] > from[law];
        }

        void add(int kind, int value) {
            if (size < MOST_KNOTS) {
                step[size] = kind;
                number[size] = value;
                size++;
            }
        }

        /** ERROR, if the law isn't told, too: both leave what goes without a law. */
        long valueOf(int law, long[] names) {
            int depth = 0;
            for (int i = from[law]; i < to[law]; i++) {
                int kind = step[i];
                if (depth < MOST_KNOTS && kind == NUMBER) {
                    stack[depth] = number[i];
                    depth++;
                } else if (depth < MOST_KNOTS && kind >= FIRST_NAME && kind < FIRST_NAME + NAMES) {
                    stack[depth] = names[kind - FIRST_NAME];
                    depth++;
                } else if (kind == NOT && depth >= 1) {
                    stack[depth - 1] = stack[depth - 1] == 0 ? 1 : 0;
                } else if (depth >= 2) {
                    long value = joined(kind, stack[depth - 2], stack[depth - 1]);
                    if (value > MOST_VALUE || value < -MOST_VALUE) {
                        return ERROR;
                    }
                    depth--;
                    stack[depth - 1] = value;
                }
            }
            return depth == 1 ? stack[0] : ERROR;
        }

        private static long joined(int kind, long a, long b) {
            switch (kind) {
                case PLUS:
                    return a + b;
                case MINUS:
                    return a - b;
                case TIMES:
                    // two values within bounds can have a product beyond a long: so a division tries the bound
                    return b != 0 && Math.abs(a) > MOST_VALUE / Math.abs(b) ? ERROR : a * b;
                case BY:
                    return b == 0 ? ERROR : a / b;
                case AND:
                    return a != 0 && b != 0 ? 1 : 0;
                case OR:
                    return a != 0 || b != 0 ? 1 : 0;
                case LESS:
                    return a < b ? 1 : 0;
                case AT_MOST:
                    return a <= b ? 1 : 0;
                case EQUAL:
                    return a == b ? 1 : 0;
                case UNLIKE:
                    return a != b ? 1 : 0;
                case AT_LEAST:
                    return a >= b ? 1 : 0;
                case MORE:
                    return a > b ? 1 : 0;
                default:
                    return ERROR;
            }
        }
    }

    /** The TOKENS along the bytes of a TEXT, one at a time. */
    private static final class Tokens {
        final byte[] tape = new byte[TAPE_BYTES];
        final int[] words = new int[MANY_WORDS];
        int length = 0;
        int at = 0;
        int kind = END;
        int place = 0;
        int number = 0;
        int letters = 0;

        Tokens() {
            for (int i = 0; i < MANY_WORDS * MOST_LETTERS; i++) {
                char sign = WORDS.charAt(i);
                int letter = sign == ' ' ? 0 : sign - 'a' + 1;
                words[i / MOST_LETTERS] = words[i / MOST_LETTERS] << LETTER_BITS | letter;
            }
        }

        void begin(int bytes) {
            length = Math.min(bytes, TAPE_BYTES);
            at = 0;
            advance();
        }

        void advance() {
            while (at < length && (tape[at] == 10 || tape[at] == 32)) {
                at++;
            }
            place = at;
            if (at >= length) {
                kind = END;
            } else if (isLetter(at)) {
                readWord();
            } else if (isDigit(at)) {
                readNumber();
            } else {
                kind = signKind(tape[at]);
                at++;
                lengthenSign();
            }
        }

        private boolean isLetter(int i) {
            return tape[i] >= 'a' && tape[i] <= 'z';
        }

        private boolean isDigit(int i) {
            return tape[i] >= '0' && tape[i] <= '9';
        }

        private void readWord() {
            letters = 0;
            while (at < length && isLetter(at)) {
                letters = letters << LETTER_BITS | tape[at] - 'a' + 1;
                at++;
            }
            int many = at - place;
            if (many > MOST_LETTERS) {
                kind = NO_TOKEN;
            } else {
                letters <<= LETTER_BITS * (MOST_LETTERS - many);
                kind = wordKind();
            }
        }

        private int wordKind() {
            for (int word = 0; word < MANY_WORDS; word++) {
                if (words[word] == letters) {
                    return MAN + word;
                }
            }
            return OWN_WORD;
        }

        private void readNumber() {
            number = 0;
            while (at < length && isDigit(at)) {
                // no bound of the document is so high: what is beyond stays beyond
                number = Math.min(1000000, number * 10 + tape[at] - '0');
                at++;
            }
            kind = NUMBER;
        }

        private static int signKind(int sign) {
            switch (sign) {
                case ';':
                    return SEMICOLON;
                case '(':
                    return OPEN;
                case ')':
                    return CLOSE;
                case '+':
                    return PLUS;
                case '-':
                    return MINUS;
                case '*':
                    return TIMES;
                case '/':
                    return BY;
                case '<':
                    return LESS;
                case '=':
                    return EQUAL;
                case '>':
                    return MORE;
                default:
                    return NO_TOKEN;
            }
        }

        private void lengthenSign() {
            if (at >= length) {
                return;
            }
            int longer = kind;
            if (kind == LESS && tape[at] == '=') {
                longer = AT_MOST;
            } else if (kind == LESS && tape[at] == '>') {
                longer = UNLIKE;
            } else if (kind == MORE && tape[at] == '=') {
                longer = AT_LEAST;
            }
            if (longer != kind) {
                kind = longer;
                at++;
            }
        }
    }

    /** Reads an E into steps. Signs wait on a pile till what binds less comes, so that nothing calls itself. */
    private static final class LawReader {
        final Tokens tokens = new Tokens();
        final int[] pile = new int[MOST_KNOTS + MOST_OPEN];
        int piled = 0;
        int open = 0;
        boolean wantsValue = true;

        /** Reads up to the ';' behind the E: 0, or the FAULT of the TOKEN that is next then. */
        int readsLaw(Laws laws, int law) {
            piled = 0;
            open = 0;
            wantsValue = true;
            int from = laws.size;
            for (int i = 0; i <= TAPE_BYTES; i++) {
                if (!wantsValue && open == 0 && tokens.kind == SEMICOLON) {
                    unpile(laws, 1);
                    laws.from[law] = from;
                    laws.to[law] = laws.size;
                    return 0;
                }
                int fault = wantsValue ? takesValue(laws) : takesSign(laws);
                if (fault != 0) {
                    return fault;
                }
                tokens.advance();
            }
            return CANT_STAND;
        }

        private int takesValue(Laws laws) {
            int kind = tokens.kind;
            if (kind == OPEN) {
                if (open >= MOST_OPEN) {
                    return TOO_MUCH;
                }
                open++;
                pileUp(OPEN);
                return 0;
            }
            if (kind == NOT) {
                return topLevel() > LEVEL_OF_NOT ? CANT_STAND : pilesKnot(laws, NOT);
            }
            if (kind != NUMBER && kind < FIRST_NAME) {
                return CANT_STAND;
            }
            if (laws.knots >= MOST_KNOTS || kind == NUMBER && tokens.number > MOST_IN_LAW) {
                return TOO_MUCH;
            }
            laws.knots++;
            laws.add(kind, tokens.number);
            wantsValue = false;
            return 0;
        }

        private int takesSign(Laws laws) {
            int kind = tokens.kind;
            if (kind == CLOSE) {
                if (open <= 0) {
                    return CANT_STAND;
                }
                unpile(laws, 1);
                // the '(' itself is no step
                piled--;
                open--;
                return 0;
            }
            int level = levelOf(kind);
            if (level == 0 || level == LEVEL_OF_NOT) {
                return CANT_STAND;
            }
            if (level == LEVEL_OF_COMPARISON) {
                unpile(laws, level + 1);
                if (topLevel() == level) {
                    return CANT_STAND;
                }
            }
            unpile(laws, level);
            wantsValue = true;
            return pilesKnot(laws, kind);
        }

        private int pilesKnot(Laws laws, int kind) {
            if (laws.knots >= MOST_KNOTS) {
                return TOO_MUCH;
            }
            laws.knots++;
            pileUp(kind);
            return 0;
        }

        private void pileUp(int kind) {
            if (piled < pile.length) {
                pile[piled] = kind;
                piled++;
            }
        }

        /** What binds as tightly as the level or more, down to an open '(', is done now. */
        private void unpile(Laws laws, int level) {
            while (piled > 0 && levelOf(pile[piled - 1]) >= level) {
                piled--;
                laws.add(pile[piled], 0);
            }
        }

        private int topLevel() {
            return piled > 0 ? levelOf(pile[piled - 1]) : 0;
        }

        private static int levelOf(int kind) {
            switch (kind) {
                case OR:
                    return 1;
                case AND:
                    return 2;
                case NOT:
                    return LEVEL_OF_NOT;
                case LESS:
                case AT_MOST:
                case EQUAL:
                case UNLIKE:
                case AT_LEAST:
                case MORE:
                    return LEVEL_OF_COMPARISON;
                case PLUS:
                case MINUS:
                    return 5;
                case TIMES:
                case BY:
                    return 6;
                default:
                    return 0;
            }
        }
    }

    /** Reads LINES into a plan, up to the first FAULT. */
    private static final class LineReader {
        final LawReader lawReader = new LawReader();
        final Tokens tokens = lawReader.tokens;
        Plan plan = new Plan();
        int lines = 0;
        int fault = 0;
        int place = NONE;
        int value = 0;
        boolean crowdTold = false;
        boolean seedTold = false;

        boolean readsAll(int bytes) {
            plan.clear();
            lines = 0;
            fault = 0;
            place = NONE;
            crowdTold = false;
            seedTold = false;
            tokens.begin(bytes);
            for (int i = 0; i <= TAPE_BYTES && tokens.kind != END; i++) {
                if (!readsLine()) {
                    return false;
                }
                lines++;
            }
            return true;
        }

        private boolean readsLine() {
            switch (tokens.kind) {
                case MAN:
                    return readsMan() && readsEnd();
                case RING:
                    return readsRing() && readsEnd();
                case MEET:
                    return readsMeet() && readsEnd();
                case COLD:
                    return readsCold() && readsEnd();
                case CROWD:
                    return readsCrowd() && readsEnd();
                case SEED:
                    return readsSeed() && readsEnd();
                case LAW:
                    return readsLaw() && readsEnd();
                default:
                    return fails(CANT_STAND);
            }
        }

        private boolean fails(int what) {
            fault = what;
            place = tokens.place;
            return false;
        }

        private boolean readsEnd() {
            if (tokens.kind != SEMICOLON) {
                return fails(CANT_STAND);
            }
            tokens.advance();
            return true;
        }

        private boolean readsNumber(int least, int most) {
            if (tokens.kind != NUMBER) {
                return fails(CANT_STAND);
            }
            if (tokens.number < least || tokens.number > most) {
                return fails(TOO_MUCH);
            }
            value = tokens.number;
            tokens.advance();
            return true;
        }

        /** Whether a number is below 0; its digits are next then. */
        private boolean skipsMinus() {
            if (tokens.kind != MINUS) {
                return false;
            }
            tokens.advance();
            return true;
        }

        private boolean readsPerson() {
            if (tokens.kind != OWN_WORD) {
                return fails(CANT_STAND);
            }
            value = plan.numberOf(tokens.letters);
            if (value == NONE) {
                return fails(NOT_TOLD);
            }
            tokens.advance();
            return true;
        }

        private boolean readsMan() {
            int man = plan.people;
            if (man >= MOST_PEOPLE) {
                return fails(TOO_MUCH);
            }
            tokens.advance();
            if (tokens.kind != OWN_WORD) {
                return fails(CANT_STAND);
            }
            if (plan.numberOf(tokens.letters) != NONE) {
                return fails(TOLD_ALREADY);
            }
            plan.names[man] = tokens.letters;
            tokens.advance();
            if (!readsNumber(1, 9)) {
                return false;
            }
            plan.talks[man] = value;
            if (!readsNumber(0, 30)) {
                return false;
            }
            plan.waits[man] = value;
            boolean offBelow = skipsMinus();
            if (!readsNumber(0, 30)) {
                return false;
            }
            plan.offs[man] = offBelow ? -value : value;
            boolean rateBelow = skipsMinus();
            if (!readsNumber(0, 9)) {
                return false;
            }
            plan.rates[man] = rateBelow ? -value : value;
            plan.people++;
            return true;
        }

        private boolean readsRing() {
            int ring = plan.rings;
            if (ring >= MOST_RINGS) {
                return fails(TOO_MUCH);
            }
            tokens.advance();
            if (!readsPerson()) {
                return false;
            }
            plan.ringMan[ring] = value;
            if (!readsNumber(0, 200)) {
                return false;
            }
            plan.ringMinute[ring] = value;
            plan.rings++;
            return true;
        }

        private boolean readsMeet() {
            int meeting = plan.meetings;
            if (meeting >= MOST_MEETINGS) {
                return fails(TOO_MUCH);
            }
            tokens.advance();
            if (!readsPerson()) {
                return false;
            }
            plan.meetOne[meeting] = value;
            if (tokens.kind == OWN_WORD && plan.numberOf(tokens.letters) == value) {
                return fails(WITH_ONESELF);
            }
            if (!readsPerson()) {
                return false;
            }
            plan.meetOther[meeting] = value;
            if (!readsNumber(0, 300)) {
                return false;
            }
            plan.meetTime[meeting] = value;
            plan.meetings++;
            return true;
        }

        private boolean readsCold() {
            int cold = plan.colds;
            if (cold >= MOST_COLDS) {
                return fails(TOO_MUCH);
            }
            tokens.advance();
            if (!readsNumber(0, 200)) {
                return false;
            }
            plan.coldFrom[cold] = value;
            if (!readsNumber(value, 200)) {
                return false;
            }
            plan.coldTo[cold] = value;
            plan.colds++;
            return true;
        }

        private boolean readsCrowd() {
            if (crowdTold) {
                return fails(TOLD_ALREADY);
            }
            crowdTold = true;
            tokens.advance();
            if (!readsNumber(0, HUNDRED)) {
                return false;
            }
            plan.crowd = value;
            return true;
        }

        private boolean readsSeed() {
            if (seedTold) {
                return fails(TOLD_ALREADY);
            }
            seedTold = true;
            tokens.advance();
            if (!readsNumber(0, 99999)) {
                return false;
            }
            plan.seed = value;
            return true;
        }

        private boolean readsLaw() {
            tokens.advance();
            if (tokens.kind < TALK || tokens.kind > DRIFT) {
                return fails(CANT_STAND);
            }
            int law = tokens.kind - TALK;
            if (plan.laws.isTold(law)) {
                return fails(TOLD_ALREADY);
            }
            tokens.advance();
            int what = lawReader.readsLaw(plan.laws, law);
            return what == 0 || fails(what);
        }
    }

    /** How all stands at a MINUTE. */
    private static final class Day {
        final int[] off = new int[MOST_PEOPLE];
        final int[] ahead = new int[MOST_PEOPLE];
        final int[] told = new int[MOST_PEOPLE];
        final int[] row = new int[MOST_IN_ROW];
        final int[] time = new int[MOST_MEETINGS];
        final int[] cameOne = new int[MOST_MEETINGS];
        final int[] cameOther = new int[MOST_MEETINGS];
        final int[] outcome = new int[MOST_MEETINGS];
        int people = 0;
        int meetings = 0;
        int minute = 0;
        int inRow = 0;
        int talker = NONE;
        int left = 0;
        int number = 0;
        int strangers = 0;

        void begin(Plan plan) {
            people = plan.people;
            meetings = plan.meetings;
            minute = 0;
            inRow = 0;
            talker = NONE;
            left = 0;
            number = plan.seed;
            strangers = 0;
            for (int man = 0; man < people; man++) {
                off[man] = plan.offs[man];
                ahead[man] = 0;
                told[man] = 0;
            }
            for (int m = 0; m < meetings; m++) {
                time[m] = plan.meetTime[m];
                cameOne[m] = NONE;
                cameOther[m] = NONE;
                outcome[m] = NOT_YET;
            }
        }

        void copy(Day other) {
            people = other.people;
            meetings = other.meetings;
            minute = other.minute;
            inRow = other.inRow;
            talker = other.talker;
            left = other.left;
            number = other.number;
            strangers = other.strangers;
            System.arraycopy(other.off, 0, off, 0, MOST_PEOPLE);
            System.arraycopy(other.ahead, 0, ahead, 0, MOST_PEOPLE);
            System.arraycopy(other.told, 0, told, 0, MOST_PEOPLE);
            System.arraycopy(other.row, 0, row, 0, MOST_IN_ROW);
            System.arraycopy(other.time, 0, time, 0, MOST_MEETINGS);
            System.arraycopy(other.cameOne, 0, cameOne, 0, MOST_MEETINGS);
            System.arraycopy(other.cameOther, 0, cameOther, 0, MOST_MEETINGS);
            System.arraycopy(other.outcome, 0, outcome, 0, MOST_MEETINGS);
        }

        int placeOf(int man) {
            for (int k = 0; k < inRow; k++) {
                if (row[k] == man) {
                    return k;
                }
            }
            return NONE;
        }

        int modeOf(int man) {
            if (talker == man) {
                return TALKING;
            }
            return placeOf(man) == NONE ? IDLE : WAITING;
        }

        /** A PERSON RINGS: false, and nothing is otherwise, if that is refused. */
        boolean takesIn(int man) {
            if (inRow >= MOST_IN_ROW || modeOf(man) != IDLE) {
                return false;
            }
            ahead[man] = talker == NONE ? inRow : inRow + 1;
            row[inRow] = man;
            inRow++;
            return true;
        }

        void takesStranger() {
            strangers++;
            if (inRow < MOST_IN_ROW) {
                row[inRow] = STRANGER;
                inRow++;
            }
        }

        void takeOut(int place) {
            if (place < 0 || place >= inRow) {
                return;
            }
            for (int k = place; k < inRow - 1; k++) {
                row[k] = row[k + 1];
            }
            inRow--;
        }

        void putIn(int place, int man) {
            if (place < 0 || place > inRow || inRow >= MOST_IN_ROW) {
                return;
            }
            for (int k = inRow; k > place; k--) {
                row[k] = row[k - 1];
            }
            row[place] = man;
            inRow++;
        }

        /** How far apart the clocks of these PEOPLE (bits) SHOW. */
        int spread(int bits) {
            boolean any = false;
            int least = 0;
            int most = 0;
            for (int man = 0; man < people; man++) {
                if ((bits >> man & 1) == 1) {
                    least = any ? Math.min(least, off[man]) : off[man];
                    most = any ? Math.max(most, off[man]) : off[man];
                    any = true;
                }
            }
            return most - least;
        }

        int howManySlower(int man) {
            int slower = 0;
            for (int other = 0; other < people; other++) {
                if (off[other] < off[man] || off[other] == off[man] && other < man) {
                    slower++;
                }
            }
            return slower;
        }

        int howMany(int what) {
            int many = 0;
            for (int m = 0; m < meetings; m++) {
                if (outcome[m] == what) {
                    many++;
                }
            }
            return many;
        }

        int toldInAll() {
            int all = 0;
            for (int man = 0; man < people; man++) {
                all += told[man];
            }
            return all;
        }

        boolean isOneThere(int meeting) {
            return cameOne[meeting] != NONE || cameOther[meeting] != NONE;
        }

        int drawNumber() {
            number = number * 1103515245 + 12345 & Integer.MAX_VALUE;
            return number / 65536;
        }
    }

    /** How MINUTES go by: as the plan tells, but for what a try changes in it. */
    private static final class Way {
        final int[] waits = new int[MOST_PEOPLE];
        final int[] rates = new int[MOST_PEOPLE];
        final long[] names = new long[NAMES];
        Plan plan = new Plan();
        int crowd = 0;
        int colds = 0;
        int silent = NONE;
        boolean drifts = true;
        boolean draws = false;

        void follow(boolean byNumbers) {
            draws = byNumbers;
            crowd = plan.crowd;
            colds = plan.colds;
            silent = NONE;
            drifts = true;
            System.arraycopy(plan.waits, 0, waits, 0, MOST_PEOPLE);
            System.arraycopy(plan.rates, 0, rates, 0, MOST_PEOPLE);
        }

        void change(int what, int man) {
            switch (what) {
                case 0:
                    crowd = 0;
                    break;
                case 1:
                    colds = 0;
                    break;
                case 2:
                    silent = man;
                    break;
                case 3:
                    drifts = false;
                    break;
                default:
                    for (int i = 0; i < MOST_PEOPLE; i++) {
                        waits[i] = LONG_WAIT;
                    }
                    break;
            }
        }

        void passMinute(Day day) {
            takeRings(day);
            if (isStrangerRinging(day)) {
                day.takesStranger();
            }
            if (day.talker == NONE && day.inRow > 0) {
                startTalk(day);
            }
            if (day.talker != NONE) {
                goOnTalking(day);
            }
            if (drifts && (day.minute + 1) % 10 == 0) {
                driftAll(day);
            }
            for (int m = 0; m < plan.meetings; m++) {
                if (day.outcome[m] == NOT_YET) {
                    meet(day, m);
                }
            }
            day.minute++;
        }

        /** ERROR, if the law isn't told, too. */
        long lawOf(Day day, int law, int man, int queue) {
            names[0] = plan.talks[man];
            names[1] = waits[man];
            names[2] = day.off[man];
            names[3] = rates[man];
            names[4] = queue;
            names[5] = day.told[man];
            names[6] = day.minute;
            return plan.laws.valueOf(law, names);
        }

        private void takeRings(Day day) {
            for (int ring = 0; ring < plan.rings; ring++) {
                if (plan.ringMinute[ring] == day.minute && plan.ringMan[ring] != silent) {
                    day.takesIn(plan.ringMan[ring]);
                }
            }
        }

        private boolean isStrangerRinging(Day day) {
            if (!draws) {
                return crowd >= CROWD_AS_IT_GOES;
            }
            if (crowd == 0 || crowd == HUNDRED) {
                return crowd == HUNDRED;
            }
            return day.drawNumber() % HUNDRED < crowd;
        }

        private void startTalk(Day day) {
            int who = day.row[0];
            day.takeOut(0);
            long minutes = STRANGER_TALKS;
            if (who != STRANGER) {
                long told = lawOf(day, LAW_OF_TALK, who, day.inRow);
                minutes = told == ERROR ? plan.talks[who] : within(told, 1, LONGEST_CALL);
            }
            if (isCold(day.minute)) {
                minutes = Math.min(LONGEST_CALL, 2 * minutes);
            }
            day.talker = who;
            day.left = (int) minutes;
        }

        private boolean isCold(int minute) {
            for (int cold = 0; cold < colds; cold++) {
                if (minute >= plan.coldFrom[cold] && minute <= plan.coldTo[cold]) {
                    return true;
                }
            }
            return false;
        }

        private void goOnTalking(Day day) {
            day.left--;
            if (day.left > 0) {
                return;
            }
            int who = day.talker;
            day.talker = NONE;
            if (who != STRANGER) {
                int ahead = day.ahead[who];
                long late = lawOf(day, LAW_OF_LATE, who, ahead);
                day.off[who] = (int) within(late == ERROR ? -ahead : late, -MOST_LATE, MOST_LATE);
                day.told[who]++;
            }
        }

        private void driftAll(Day day) {
            for (int man = 0; man < plan.people; man++) {
                long told = lawOf(day, LAW_OF_DRIFT, man, day.inRow);
                long more = told == ERROR ? rates[man] : within(told, -MOST_DRIFT, MOST_DRIFT);
                day.off[man] = (int) within(day.off[man] + more, -MOST_OFF, MOST_OFF);
            }
        }

        private void meet(Day day, int m) {
            int one = plan.meetOne[m];
            int other = plan.meetOther[m];
            if (day.cameOne[m] == NONE && day.minute + day.off[one] >= day.time[m]) {
                day.cameOne[m] = day.minute;
            }
            if (day.cameOther[m] == NONE && day.minute + day.off[other] >= day.time[m]) {
                day.cameOther[m] = day.minute;
            }
            if (day.cameOne[m] != NONE && day.cameOther[m] != NONE) {
                int waited = Math.abs(day.cameOne[m] - day.cameOther[m]);
                day.outcome[m] = waited <= Math.min(waits[one], waits[other]) ? KEPT : MISSED;
            }
        }
    }

    /** What was SEEN of clocks, and what was STRUCK of it. */
    private static final class Seen {
        final int[] minutes = new int[MOST_SEEN];
        final int[] man = new int[MOST_SEEN];
        final int[] shown = new int[MOST_SEEN];
        final int[] strikes = new int[MOST_SEEN];
        final boolean[] atLeast = new boolean[MOST_SEEN];
        final boolean[] counts = new boolean[MOST_SEEN];
        int size = 0;
        int known = NONE;

        void forget() {
            size = 0;
            known = NONE;
        }

        int knownBy() {
            return known == NONE ? size : Math.min(known, size);
        }

        int addSight(int behind, int whose, int showed, boolean orMore) {
            if (size >= MOST_SEEN) {
                return NONE;
            }
            minutes[size] = behind;
            man[size] = whose;
            shown[size] = showed;
            atLeast[size] = orMore;
            strikes[size] = NONE;
            size++;
            return size - 1;
        }

        int addStrike(int number) {
            if (size >= MOST_SEEN || number < 0 || number >= size) {
                return NONE;
            }
            strikes[size] = number;
            size++;
            return size - 1;
        }

        /** From the last one on: a STRIKE strikes only what came ahead of it, so each is settled when it is asked. */
        void judge() {
            int many = knownBy();
            for (int i = 0; i < MOST_SEEN; i++) {
                counts[i] = i < many;
            }
            for (int i = many - 1; i >= 0; i--) {
                if (strikes[i] != NONE) {
                    if (counts[i]) {
                        counts[strikes[i]] = false;
                    }
                    counts[i] = false;
                }
            }
        }

        int lastMinute() {
            int last = 0;
            for (int i = 0; i < size; i++) {
                if (counts[i]) {
                    last = Math.max(last, minutes[i]);
                }
            }
            return last;
        }

        boolean isSo(Day day) {
            for (int i = 0; i < size; i++) {
                if (counts[i] && minutes[i] == day.minute
                        && day.minute + day.off[man[i]] >= shown[i] != atLeast[i]) {
                    return false;
                }
            }
            return true;
        }
    }

    /** What was done by call since the last MINUTE, and what was so ahead of it. */
    private static final class Log {
        final int[] act = new int[MOST_UNDONE];
        final int[] who = new int[MOST_UNDONE];
        final int[] old = new int[MOST_UNDONE];
        int size = 0;

        void note(int what, int whose, int before) {
            if (size >= MOST_UNDONE) {
                for (int i = 1; i < MOST_UNDONE; i++) {
                    act[i - 1] = act[i];
                    who[i - 1] = who[i];
                    old[i - 1] = old[i];
                }
                size = MOST_UNDONE - 1;
            }
            act[size] = what;
            who[size] = whose;
            old[size] = before;
            size++;
        }
    }
}
