/** The edges that 'Terms' and promises 1 to 5 and 9 name: of each sentence its own test. */
public final class TextEdgesTest {
    private static final String[] LANGUAGE = {"man", "ring", "meet", "cold", "crowd", "seed", "law", "talk", "late",
        "drift", "or", "and", "not", "talks", "waits", "off", "rate", "queue", "told", "minute"};
    private static final String[] SIGNS = {"+", "-", "*", "/", "<", "<=", "=", "<>", ">=", ">", "and", "or"};
    private static final String A = "man a 1 1 1 1;";
    private static final String AB = "man a 1 1 1 1;man b 1 1 1 1;";
    /** 63 KNOTS that end with a number. */
    private static final String KNOTS_63 = Due.times("1+", 31) + "1";

    public static void main(String[] args) {
        textOfLines();
        words();
        wordsTooLong();
        wordsOfTheLanguage();
        digits();
        blanks();
        everyByte();
        numbersOfMan();
        numbersOfOtherLines();
        numbersThatWrap();
        howManyOfEach();
        eightOpen();
        knots();
        oneKnotEach();
        lengthIfMoreMustCome();
        cutInsideAToken();
        tokensOfLines();
        tokensOfLaws();
        firstAlongTheText();
        leastOfOnePlace();
        toldAlready();
        toldAhead();
        withOneself();
        grammarOfE();
        defaults();
        newObject();
        feed();
        feedIsRefused();
        text();
        textIsRefused();
        textWithAFault();
        textBehindTexts();
        lawsBehindLaws();
        fullOfEverything();
        fault();
        named();
        law();
        values();
        Due.end();
    }

    private static void textOfLines() {
        Due.by("Terms: { LINE ';' }");
        Due.fine("", 0);
        Due.fine("seed 1;", 1);
        Due.fine("seed 1;crowd 1;cold 1 1;", 3);
        Due.faulty("seed 1", 1, 6);
        Due.faulty("seed 1;crowd 1", 1, 14);
        Due.faulty(";", 1, 0);
        Due.faulty("seed 1;;", 1, 7);
        Due.faulty("seed 1 crowd 1;", 1, 7);
    }

    private static void words() {
        Due.by("Terms: Words: small letters in a row; W: one of 1 .. 6 letters");
        Due.fine("man a 1 1 1 1;man z 1 1 1 1;man abcdef 1 1 1 1;man zzzzzz 1 1 1 1;", 4);
        Due.faulty("man abcdefg 1 1 1 1;", 1, 4);
        Due.faulty("man " + Due.times("a", 300) + " 1 1 1 1;", 1, 4);
        Due.faulty("man abcdef 1 1 1 1;ring abcdefg 1;", 1, 24);
        Due.faulty("man abcdef 1 1 1 1;ring zabcdef 1;", 1, 24);
        Due.faulty("man ` 1 1 1 1;", 1, 4);
        Due.faulty("man { 1 1 1 1;", 1, 4);
        Due.faulty("man A 1 1 1 1;", 1, 4);
        Due.faulty("man Z 1 1 1 1;", 1, 4);
        Due.faulty("mana 1 1 1 1;", 1, 0);
        Due.faulty("ma n a 1 1 1 1;", 1, 0);
        Due.faulty("man 1 1 1 1;", 1, 4);
        Due.faulty("man ; 1 1 1 1;", 1, 4);
    }

    /** At each place, behind each kind of TOKEN: also where that one could stand once more. */
    private static void wordsTooLong() {
        Due.by("Terms: 1: a word of more than 6 letters that isn't of the language, too");
        String[] ahead = {"", "seed 1;", "man ", "man a ", "man a 1 ", "man a 1 1 ", "man a 1 1 -", "man a 1 1 1 1 ",
            A + "ring ", A + "ring a ", AB + "meet a ", "crowd ", "cold 1 ", "law ", "law talk ", "law talk 1 ",
            "law talk not ", "law talk (", "law talk off ", "law talk 1+", "law talk 1<"};
        for (String text : ahead) {
            Due.faulty(text + "abcdefg 1;", 1, text.length());
            Due.faulty(text + "abcdefg" + (text.endsWith("1 ") ? " 1 1 1;" : " 1);"), 1, text.length());
            Due.faulty(text + "minutes 1;", 1, text.length());
            Due.faulty(text + "talkings;", 1, text.length());
        }
    }

    private static void wordsOfTheLanguage() {
        Due.by("Terms: W: none of those of the language");
        for (String word : LANGUAGE) {
            Due.faulty("man " + word + " 1 1 1 1;", 1, 4);
            Due.faulty(A + "ring " + word + " 1;", 1, 19);
            Due.faulty(A + "meet a " + word + " 1;", 1, 21);
            Due.fine("man " + word.substring(1) + "x 1 1 1 1;", 1);
        }
        Due.fine("man mans 1 1 1 1;man ma 1 1 1 1;man minut 1 1 1 1;man nota 1 1 1 1;man o 1 1 1 1;", 5);
    }

    private static void digits() {
        Due.by("Terms: N: digits");
        Due.fine("seed 0;", 1);
        Due.fine("seed 00000000000000000000000000000000000000000000000000099999;", 1);
        Due.faulty("seed " + Due.times("9", 600) + ";", 2, 5);
        Due.fine("seed " + Due.times("0", 600) + "9;", 1);
        Due.faulty("seed /;", 1, 5);
        Due.faulty("seed :;", 1, 5);
        Due.faulty("seed 1 2;", 1, 7);
        Due.faulty("seed 1a;", 1, 6);
        Due.fine("seed9;", 1);
        Due.fine("man a1 1 1 1;", 1);
        Due.fine("man a1 1 1-1;", 1);
    }

    private static void blanks() {
        Due.by("Terms: Blanks 10, 32");
        Due.fine(" ", 0);
        Due.fine("\n", 0);
        Due.fine("\n \n  man\n\na  1\n1 - 1\n-\n1\n;\n ring a 3 ; ", 2);
        Due.faulty("\tseed 1;", 1, 0);
        Due.faulty("seed 1;\r", 1, 7);
    }

    /** Behind "seed 7": a blank and a digit may stand there, a ';' ends the LINE, and nothing else may come. */
    private static void everyByte() {
        Due.by("Terms: a TOKEN that is none or can't stand there");
        for (char b = 0; b < 256; b++) {
            String text = "seed 7" + b + ";";
            if (b == 10 || b == 32 || b >= '0' && b <= '9') {
                Due.fine(text, 1);
            } else {
                Due.faulty(text, 1, b == ';' ? 7 : 6);
            }
        }
    }

    /** A number at this place of a LINE may be least .. most, and nothing else. */
    private static void number(String ahead, String behind, int least, int most) {
        Due.fine(ahead + least + behind, linesOf(ahead) + 1);
        Due.fine(ahead + most + behind, linesOf(ahead) + 1);
        Due.faulty(ahead + (most + 1) + behind, 2, ahead.length());
        if (least > 0) {
            Due.faulty(ahead + (least - 1) + behind, 2, ahead.length());
        } else {
            Due.faulty(ahead + "-1" + behind, 1, ahead.length());
        }
    }

    /** Here a '-' may stand, and the number is -most .. most. */
    private static void signed(String ahead, String behind, int most) {
        Due.fine(ahead + most + behind, linesOf(ahead) + 1);
        Due.fine(ahead + "-" + most + behind, linesOf(ahead) + 1);
        Due.fine(ahead + "- " + most + behind, linesOf(ahead) + 1);
        Due.fine(ahead + "-0" + behind, linesOf(ahead) + 1);
        Due.faulty(ahead + (most + 1) + behind, 2, ahead.length());
        Due.faulty(ahead + "-" + (most + 1) + behind, 2, ahead.length() + 1);
        Due.faulty(ahead + "-  " + (most + 1) + behind, 2, ahead.length() + 3);
        Due.faulty(ahead + "--1" + behind, 1, ahead.length() + 1);
        Due.faulty(ahead + "+1" + behind, 1, ahead.length());
    }

    private static int linesOf(String text) {
        int lines = 0;
        for (char sign : text.toCharArray()) {
            lines += sign == ';' ? 1 : 0;
        }
        return lines;
    }

    private static void numbersOfMan() {
        Due.by("Terms: TALKS 1 .. 9 MINUTES");
        number("man a ", " 1 1 1;", 1, 9);
        Due.by("Terms: WAITS 0 .. 30 MINUTES");
        number("man a 1 ", " 1 1;", 0, 30);
        Due.by("Terms: OFF -30 .. 30 (of a number with - at the digits)");
        signed("man a 1 1 ", " 1;", 30);
        Due.by("Terms: RATE -9 .. 9 (of a number with - at the digits)");
        signed("man a 1 1 1 ", ";", 9);
        SpeakClock c = Due.told("man a 1 0 -30 -9;man b 9 30 30 9;man c 1 1 -0 -0;");
        int[][] due = {{1, 0, -30, -9}, {9, 30, 30, 9}, {1, 1, 0, 0}};
        for (int man = 0; man < 3; man++) {
            for (int what = 0; what < 4; what++) {
                Due.is("man(" + man + ", " + what + ")", c.man(man, what), due[man][what]);
            }
        }
    }

    private static void numbersOfOtherLines() {
        Due.by("Terms: RINGS of a PERSON at a MINUTE 0 .. 200");
        number(A + "ring a ", ";", 0, 200);
        Due.by("Terms: MEETINGS at a TIME 0 .. 300");
        number(AB + "meet a b ", ";", 0, 300);
        Due.by("Terms: cold from a MINUTE 0 .. 200");
        number("cold ", " 200;", 0, 200);
        Due.by("Terms: cold to another one, no less (below its first one, too)");
        number("cold 0 ", ";", 0, 200);
        number("cold 7 ", ";", 7, 200);
        number("cold 200 ", ";", 200, 200);
        Due.by("Terms: crowd: of a hundred 0 .. 100");
        number("crowd ", ";", 0, 100);
        Due.by("Terms: seed: 0 .. 99999");
        number("seed ", ";", 0, 99999);
        Due.by("Terms: N of E 0 .. 9999");
        number("law talk ", ";", 0, 9999);
        number("law late (talks+", ")*2;", 0, 9999);
        Due.is("9999 of E", Due.told(A + "law drift 9999;").law(2, 0), 9999);
        Due.is("0 of E", Due.told(A + "law drift 0;").law(2, 0), 0);
    }

    /** Numbers that would be allowed, were they only looked at without what is above 31, 32 or 64 bits. */
    private static void numbersThatWrap() {
        Due.by("Terms: 2 too much: a number beyond what is said");
        String[] ahead = {"man a ", "man a 1 ", "man a 1 1 ", "man a 1 1 -", "man a 1 1 1 ", "man a 1 1 1 -", A + "ring a ",
            AB + "meet a b ", "cold ", "cold 1 ", "crowd ", "seed ", "law talk "};
        String[] beyond = {"2147483648", "2147483649", "4294967295", "4294967297", "42949672961", "9223372036854775809",
            "18446744073709551617", "340282366920938463463374607431768211457", "1000001", "10000000000001"};
        for (String line : ahead) {
            for (String number : beyond) {
                Due.faulty(line + number + ";", 2, line.length());
            }
        }
    }

    private static void howManyOfEach() {
        Due.by("Terms: PEOPLE at most 6 (a seventh man, at the word of the LINE)");
        String six = AB + "man c 1 1 1 1;man d 1 1 1 1;man e 1 1 1 1;man f 1 1 1 1;";
        Due.fine(six, 6);
        Due.is("people", Due.told(six).count(0), 6);
        Due.faulty(six + "man g 1 1 1 1;", 2, six.length());
        Due.faulty(six + "ring a 1;man", 2, six.length() + 9);
        Due.by("Terms: RINGS at most 10");
        String ten = AB + Due.times("ring a 1;", 10);
        Due.fine(ten, 12);
        Due.is("rings", Due.told(ten).count(1), 10);
        Due.faulty(ten + "ring b 1;", 2, ten.length());
        Due.faulty(ten + "ring", 2, ten.length());
        Due.by("Terms: MEETINGS at most 6");
        String meets = AB + Due.times("meet a b 1;", 6);
        Due.fine(meets, 8);
        Due.is("meetings", Due.told(meets).count(2), 6);
        Due.faulty(meets + "meet b a 1;", 2, meets.length());
        Due.faulty(meets + "meet a a", 2, meets.length());
        Due.by("Terms: cold at most 3");
        Due.fine("cold 1 1;cold 1 1;cold 1 1;", 3);
        Due.faulty("cold 1 1;cold 1 1;cold 1 1;cold 1 1;", 2, 27);
        Due.faulty("cold 1 1;cold 1 1;cold 1 1;cold", 2, 27);
        Due.fine(six + Due.times("ring f 1;", 10) + Due.times("meet e f 1;", 6) + Due.times("cold 1 1;", 3), 25);
    }

    private static void eightOpen() {
        Due.by("Terms: 2: a ninth '(' open");
        Due.fine("law talk ((((((((1))))))));", 1);
        Due.faulty("law talk (((((((((1)))))))));", 2, 17);
        Due.faulty("law talk (((((((1+(2*(", 2, 21);
        Due.fine("law talk (((((((1+(2)+(3)+(4)))))))) + ((((((((5))))))));law late ((((((((1))))))));", 2);
        Due.fine("law talk " + Due.times("(1)+", 30) + "1;", 1);
        Due.fine("law talk (1)+((((((((1))))))));", 1);
        Due.faulty("law talk (1)+(((((((((1", 2, 21);
    }

    private static void knots() {
        Due.by("Terms: a 65th KNOT of all E");
        Due.fine("law talk " + KNOTS_63 + ";law late 1;", 2);
        Due.is("64 knots", Due.told("law talk " + KNOTS_63 + ";law late 1;").count(3), 64);
        Due.faulty("law talk " + KNOTS_63 + ";law late 1;law drift 1;", 2, 94);
        Due.faulty("law talk " + KNOTS_63 + ";law late not (((1)));", 2, 89);
    }

    private static void oneKnotEach() {
        Due.by("Terms: N, NAMES, signs, not, and, or: one each");
        String full = "law talk " + KNOTS_63 + ";law late 1";
        for (String sign : SIGNS) {
            Due.faulty(full + " " + sign + " 1;", 2, full.length() + 1);
            Due.is("knots of 1 " + sign + " 1", Due.told("law talk 1 " + sign + " 1;").count(3), 3);
        }
        String open = "law talk " + KNOTS_63 + " and ";
        Due.faulty(open + "1;", 2, open.length());
        Due.faulty(open + "not 1;", 2, open.length());
        Due.faulty(open + "(1);", 2, open.length() + 1);
        for (String name : "talks waits off rate queue told minute".split(" ")) {
            Due.faulty(open + name + ";", 2, open.length());
            Due.is("knots of " + name, Due.told("law talk " + name + ";").count(3), 1);
        }
        Due.is("knots of not not 1", Due.told("law talk not not 1;").count(3), 3);
        Due.is("knots of (((1)))", Due.told("law talk (((1)));").count(3), 1);
        Due.is("knots of three laws", Due.told("law talk 1;law late 1+1;law drift not 1;").count(3), 6);
    }

    /** The pieces are TOKENS: behind each but the last one more must come, with and without blanks behind it. */
    private static void unended(String ahead, String... pieces) {
        StringBuilder text = new StringBuilder(ahead);
        for (int i = 0; i < pieces.length - 1; i++) {
            text.append(pieces[i]);
            Due.faulty(text.toString(), 1, text.length());
            Due.faulty(text + " \n ", 1, text.length() + 3);
            text.append(' ');
        }
        text.append(pieces[pieces.length - 1]);
        Due.fine(text.toString(), linesOf(text.toString()));
    }

    private static void lengthIfMoreMustCome() {
        Due.by("Terms: 1 (the length, if more must come)");
        unended("", "man", "a", "1", "1", "1", "1", ";");
        unended("", "man", "a", "1", "1", "-", "1", "-", "1", ";");
        unended(A, "ring", "a", "1", ";");
        unended(AB, "meet", "a", "b", "1", ";");
        unended("", "cold", "1", "1", ";");
        unended("", "crowd", "1", ";");
        unended("", "seed", "1", ";");
        unended("", "law", "talk", "1", ";");
        unended("", "law", "late", "not", "(", "talks", "+", "2", ")", "*", "off", "<=", "3", "and", "1", "or", "0", ";");
        unended("", "law", "drift", "(", "(", "1", ")", "-", "(", "2", ")", ")", "/", "3", ";");
    }

    /** The TEXT ends where the TAPE goes on with what would belong to its last TOKEN. */
    private static void cutInsideAToken() {
        Due.by("Promise 3: the TAPE's first n bytes are the TEXT");
        String[] cut = {"se|ed 1;", "seed| 1;", "seed 1|2;", "man a|bc 1 1 1 1;", "man abcdef|g 1 1 1 1;", "law talk 1<|=2;",
            "law talk 1>|=2;", "law talk 1<|>2;", "law talk t|alks;", "cold 1 1|0;", "law talk 1-|2;", "seed 1|;"};
        int[] places = {0, 4, 6, 5, 10, 11, 11, 11, 9, 8, 11, 6};
        for (int i = 0; i < cut.length; i++) {
            int n = cut[i].indexOf('|');
            SpeakClock c = new SpeakClock();
            Due.feed(c, cut[i].replace("|", ""));
            Due.is("text(" + n + ") of " + cut[i], c.text(n), -1);
            Due.is("fault(0) of " + cut[i], c.fault(0), 1);
            Due.is("fault(1) of " + cut[i], c.fault(1), places[i]);
        }
        Due.by("Promise 2 and 3: 700 bytes, and the last one of them is the TEXT's");
        String[] last = {"seed 12", "seed", "law talk 1<", "law talk 1>", "man abcdef", "law talk talks", "seed 1 "};
        for (String end : last) {
            Due.faulty(Due.times(" ", 700 - end.length()) + end, 1, 700);
        }
        Due.fine(Due.times(" ", 693) + "seed 1;", 1);
        Due.faulty(Due.times(" ", 699) + "a", 1, 699);
        Due.faulty(Due.times(" ", 699) + "<", 1, 699);
        Due.faulty(Due.times(" ", 699) + "7", 1, 699);
    }

    /** Behind this none but the TOKENS named may come; those that may have another FAULT there or none. */
    private static void only(String ahead, String named) {
        String all = String.join(" ", LANGUAGE) + " a zzz 7 ; ( ) + - * / < <= = <> >= >";
        for (String token : all.split(" ")) {
            SpeakClock c = new SpeakClock();
            Due.tell(c, ahead + " " + token);
            boolean cantStand = c.fault(0) == 1 && c.fault(1) == ahead.length() + 1;
            boolean isNamed = (" " + named + " ").contains(" " + token + " ");
            Due.is("\"" + token + "\" behind \"" + ahead + "\" can't stand there", cantStand, !isNamed);
        }
    }

    private static void tokensOfLines() {
        Due.by("Terms: 1: a TOKEN that can't stand there, in each LINE");
        only(AB, "man ring meet cold crowd seed law");
        only("", "man ring meet cold crowd seed law");
        only(AB + "man", "a zzz");
        only("man zz", "7");
        only("man zz 7", "7");
        only("man zz 7 7", "7 -");
        only("man zz 7 7 -", "7");
        only("man zz 7 7 7", "7 -");
        only("man zz 7 7 7 -", "7");
        only("man zz 7 7 7 7", ";");
        only(AB + "ring", "a zzz");
        only(AB + "ring a", "7");
        only(AB + "ring a 7", ";");
        only(AB + "meet", "a zzz");
        only(AB + "meet b", "a zzz");
        only(AB + "meet b a", "7");
        only(AB + "meet b a 7", ";");
        only("cold", "7");
        only("cold 7", "7");
        only("cold 7 7", ";");
        only("crowd", "7");
        only("crowd 7", ";");
        only("seed", "7");
        only("seed 7", ";");
    }

    private static void tokensOfLaws() {
        Due.by("Terms: 1: a TOKEN that can't stand there, in each place of E");
        only("law", "talk late drift");
        String factor = "7 talks waits off rate queue told minute (";
        for (String law : new String[] {"law talk", "law late", "law drift", "law talk not", "law talk (", "law talk 1 and",
            "law talk 1 or", "law talk 1<2 and", "law talk (not"}) {
            only(law, factor + " not");
        }
        for (String sign : new String[] {"+", "-", "*", "/", "<", "<=", "=", "<>", ">=", ">"}) {
            only("law talk 1" + sign, factor);
            only("law talk not (1" + sign, factor);
        }
        String joined = "+ - * / and or";
        String compared = joined + " < <= = <> >= >";
        for (String e : new String[] {"1", "off", "(1)", "not 1", "(1<2)", "1<2 and 3", "1<2 or 3", "1<2 or not 3", "1*2+3"}) {
            only("law talk " + e, compared + " ;");
            only("law talk (" + e, compared + " )");
        }
        for (String e : new String[] {"1<2", "1+1=2*2", "not 1>2", "1 and 2<=3", "(1<2)<3", "1<2 or 3<>4"}) {
            only("law talk " + e, joined + " ;");
            only("law talk (" + e, joined + " )");
        }
    }

    private static void firstAlongTheText() {
        Due.by("Terms: FAULTS, the first along the text");
        Due.faulty("crowd 101;seed 100000;", 2, 6);
        Due.faulty("seed 100000;crowd 101;", 2, 5);
        Due.faulty("ring x 1;man a 0", 4, 5);
        Due.faulty("man a 0 99 99 99;%", 2, 6);
        Due.faulty("cold 9 8 %", 2, 7);
        Due.faulty("man a 1 1 1 1 %;man a", 1, 14);
    }

    private static void leastOfOnePlace() {
        Due.by("Terms: of one place the least");
        String full = "law talk " + KNOTS_63 + ";law late 1";
        // what can't stand there is no KNOT that would be too much
        Due.faulty(full + " 1;", 1, full.length() + 1);
        Due.faulty(full + " off;", 1, full.length() + 1);
        Due.faulty(full + " not 1;", 1, full.length() + 1);
        Due.faulty(full + " 10000;", 1, full.length() + 1);
        Due.faulty(full + ");", 1, full.length());
        Due.faulty("law talk ((((((((1(1", 1, 18);
        Due.faulty("seed 1 100000;", 1, 7);
        Due.faulty("cold 1 1 201;", 1, 9);
        Due.faulty("ring abcdefg 1;", 1, 5);
        String comparison = "law talk " + Due.times("1+", 30) + "1<1";
        Due.is("63 knots with a comparison", Due.told(comparison + ";").count(3), 63);
        Due.faulty(comparison + ";law late 1<1", 2, comparison.length() + 11);
        String two = "law talk " + Due.times("1+", 30) + "1;law late 1<1";
        Due.is("64 knots with a comparison", Due.told(two + ";").count(3), 64);
        Due.faulty(two + "<1", 1, two.length());
    }

    private static void toldAlready() {
        Due.by("Terms: 3 told already: a name (at W), crowd, seed (at the word), a law of its LAW (at LAW)");
        Due.faulty(AB + "man b 1 1 1 1;", 3, 32);
        Due.faulty(AB + "man a", 3, 32);
        Due.faulty("crowd 0;seed 0;crowd 0;", 3, 15);
        Due.faulty("crowd 1;crowd x", 3, 8);
        Due.faulty("seed 0;seed 0;", 3, 7);
        Due.faulty("seed 0;seed 100000;", 3, 7);
        for (String law : new String[] {"talk", "late", "drift"}) {
            String told = "law " + law + " 0;";
            Due.faulty(told + "law " + law + " 0;", 3, told.length() + 4);
            Due.faulty(told + "law " + law, 3, told.length() + 4);
        }
        Due.fine("law drift 0;law talk 0;law late 0;crowd 0;seed 0;", 5);
    }

    private static void toldAhead() {
        Due.by("Terms: 4 a PERSON that isn't told ahead (at W)");
        Due.faulty("ring a 1;" + A, 4, 5);
        Due.faulty(A + "ring b 1;man b 1 1 1 1;", 4, 19);
        Due.faulty(A + "meet a b 1;", 4, 21);
        Due.faulty(A + "meet b a 1;", 4, 19);
        Due.faulty(A + "meet b b 1;", 4, 19);
        Due.faulty("man ab 1 1 1 1;ring a 1;", 4, 20);
        Due.faulty("man a 1 1 1 1;ring ab 1;", 4, 19);
        Due.fine(AB + "ring b 1;meet b a 1;", 4);
    }

    private static void withOneself() {
        Due.by("Terms: 5 a MEETING of one with oneself (at the second W)");
        Due.faulty(A + "meet a a 1;", 5, 21);
        Due.faulty(AB + "meet b b", 5, 35);
        Due.faulty(AB + "meet b b 301;", 5, 35);
        Due.fine(AB + "meet a b 1;meet b a 1;", 4);
    }

    private static void grammarOfE() {
        Due.by("Terms: C: S [ one comparison S ]");
        String[] comparisons = {"<", "<=", "=", "<>", ">=", ">"};
        for (String one : comparisons) {
            for (String other : comparisons) {
                String text = "law talk 1" + one + "2+3";
                Due.faulty(text + " " + other + " 4;", 1, text.length() + 1);
                Due.fine("law talk (1" + one + "2)" + other + "3;", 1);
                Due.fine("law talk 1" + one + "2 and 3" + other + "4 or not 5" + one + "6;", 1);
            }
        }
        Due.by("Terms: B: not B | C");
        Due.faulty("law talk 1+not 1;", 1, 11);
        Due.faulty("law talk 1*not 1;", 1, 11);
        Due.faulty("law talk 1<not 1;", 1, 11);
        Due.fine("law talk 1+(not 1);", 1);
        Due.fine("law talk not not not 1;", 1);
        Due.fine("law talk 1 and not 1 or not 1;", 1);
        Due.by("Terms: P: N | NAME | '(' E ')'");
        Due.faulty("law talk ();", 1, 10);
        Due.faulty("law talk (1;", 1, 11);
        Due.faulty("law talk 1);", 1, 10);
        Due.faulty("law talk (1));", 1, 12);
        Due.faulty("law talk -1;", 1, 9);
        Due.faulty("law talk talk;", 1, 9);
        Due.faulty("law talk man;", 1, 9);
        Due.faulty(A + "law talk a;", 1, 23);
        Due.faulty("law talks 1;", 1, 4);
        Due.by("Terms: A = (or > behind <) right behind < or > belongs to it");
        Due.faulty("law talk 1< =2;", 1, 12);
        Due.faulty("law talk 1> =2;", 1, 12);
        Due.faulty("law talk 1< >2;", 1, 12);
        Due.faulty("law talk 1<=>2;", 1, 12);
        Due.faulty("law talk 1>>2;", 1, 11);
        Due.faulty("law talk 1=>2;", 1, 11);
        Due.faulty("law talk 1<", 1, 11);
        Due.faulty("law talk 1>", 1, 11);
    }

    private static void defaults() {
        Due.by("Terms: crowd (0), seed (0)");
        SpeakClock none = Due.told(A);
        none.go(50);
        Due.is("strangers without a crowd", none.count(10), 0);
        SpeakClock zero = Due.told("crowd 50;seed 0;");
        SpeakClock without = Due.told("crowd 50;");
        SpeakClock one = Due.told("crowd 50;seed 1;");
        int unlike = 0;
        for (int i = 0; i < 60; i++) {
            zero.go(1);
            without.go(1);
            one.go(1);
            Due.is("strangers without a seed", without.count(10), zero.count(10));
            unlike += one.count(10) == zero.count(10) ? 0 : 1;
        }
        Due.is("but with a seed of 1", unlike > 0, true);
    }

    private static void newObject() {
        Due.by("Promise 1: a TEXT without LINES; an empty TAPE");
        SpeakClock c = new SpeakClock();
        Due.is("NONE", SpeakClock.NONE, -1);
        Due.is("text(1)", c.text(1), -2);
        for (int what = 0; what < 14; what++) {
            Due.is("count(" + what + ")", c.count(what), 0);
        }
        SpeakClock empty = new SpeakClock();
        empty.text(0);
        Due.is("all it answers", Look.at(c), Look.at(empty));
        Due.is("all it answers then", Look.andThen(c), Look.andThen(empty));
        Due.is("feed", new SpeakClock().feed(0, 0, 0, 0, 0), 20);
    }

    private static void feed() {
        Due.by("Promise 2: twenty bytes, four of each number, the highest first");
        SpeakClock c = new SpeakClock();
        // man a 1 2 -3 4;<blanks>: 6d616e20 61203120 32202d33 20343b20 20202020
        Due.is("feed", c.feed(0x6d616e20, 0x61203120, 0x32202d33, 0x20343b20, 0x20202020), 20);
        Due.is("text(20)", c.text(20), 1);
        Due.is("talks", c.man(0, 0), 1);
        Due.is("off", c.man(0, 2), -3);
        Due.is("rate", c.man(0, 3), 4);
        c.feed(0x20202020, 0x20202020, 0x20202020, 0x20202020, 0x202020ff);
        Due.is("the last byte", c.text(20) * 100 + c.fault(1), -100 + 19);
        c.feed(0x80202020, 0x20202020, 0x20202020, 0x20202020, 0x20202020);
        Due.is("the first byte", c.text(20) * 100 + c.fault(1), -100);
        c.feed(0x20202020, 0x2020007f, 0x20202020, 0x20202020, 0x20202020);
        Due.is("a byte between", c.text(20) * 100 + c.fault(1), -100 + 6);
        c.feed(-1, Integer.MIN_VALUE, Integer.MAX_VALUE, 0, 0);
        Due.is("bytes above 127", c.text(20) * 100 + c.fault(1), -100);
    }

    private static void feedIsRefused() {
        Due.by("Promise 2: NONE, and none come, if it would have more than 700");
        SpeakClock c = new SpeakClock();
        int blank = 0x20202020;
        for (int has = 20; has <= 680; has += 20) {
            Due.is("feed", c.feed(blank, blank, blank, blank, blank), has);
        }
        // "seed 1;seed 2;      " as the last twenty
        int[] last = {0x73656564, 0x20313b73, 0x65656420, 0x323b2020, 0x20202020};
        Due.is("feed up to 700", c.feed(last[0], last[1], last[2], last[3], last[4]), 700);
        Due.is("feed beyond", c.feed(-1, -1, -1, -1, -1), -1);
        Due.is("once more", c.feed(0, 0, 0, 0, 0), -1);
        Due.is("text(701)", c.text(701), -2);
        Due.is("text(700)", c.text(700), -1);
        Due.is("the fault of what came before", c.fault(0) * 1000 + c.fault(1), 3687);
        Due.is("feed to the empty tape", c.feed(0, 0, 0, 0, 0), 20);
    }

    private static SpeakClock taped(String text) {
        SpeakClock c = new SpeakClock();
        Due.feed(c, text);
        return c;
    }

    private static void text() {
        Due.by("Promise 3: the first n bytes are the TEXT, the TAPE is empty then: how many LINES");
        String twenty = "seed 1;crowd 2;     ";
        Due.is("text(20), all of it", taped(twenty).text(20), 2);
        Due.is("text(15)", taped(twenty).text(15), 2);
        Due.is("text(7)", taped(twenty).text(7), 1);
        Due.is("text(0)", taped(twenty).text(0), 0);
        Due.is("text(14): cut off", taped(twenty).text(14), -1);
        for (int n : new int[] {0, 7, 20}) {
            SpeakClock c = taped(twenty);
            c.text(n);
            Due.is("the tape is empty", c.text(1), -2);
            Due.is("and is fed anew", c.feed(0, 0, 0, 0, 0), 20);
        }
        Due.by("Promise 3: MINUTE 0, the QUEUE empty, nobody TOLD, nothing SEEN, all KNOWN, no IMAGE, nothing to undo");
        SpeakClock c = Look.full();
        Due.tell(c, Due.THREE);
        SpeakClock d = Due.told(Due.THREE);
        Due.is("all that a new text leaves", Look.at(c), Look.at(d));
        Due.is("all that a new text leaves then", Look.andThen(c), Look.andThen(d));
    }

    private static void textIsRefused() {
        Due.by("Promise 3: -2, and the TAPE stays: there are not so many, n is below 0");
        String twenty = "seed 1;crowd 2;     ";
        for (int n : new int[] {21, 40, 700, 701, Integer.MAX_VALUE, -1, -20, Integer.MIN_VALUE}) {
            SpeakClock c = taped(twenty);
            Due.is("text(" + n + ")", c.text(n), -2);
            Due.is("text(20) then", c.text(20), 2);
        }
        Due.is("text(1) of an empty tape", new SpeakClock().text(1), -2);
        Due.is("text(0) of an empty tape", new SpeakClock().text(0), 0);
    }

    private static void textWithAFault() {
        Due.by("Promise 3: NONE with a FAULT, all stays");
        for (String text : new String[] {"x", "man a 1 1 1 1;man b 2 2 2 2;law talk 1;law late 1;crowd 9;seed 8;cold 1 1",
            "man z 1 1 1 1;man z", "ring a 1;", "cold 1 0;", "law talk 1+;"}) {
            SpeakClock c = Look.full();
            SpeakClock d = Look.full();
            Due.is("text", Due.tell(c, text), -1);
            // the fault is the one thing that is another one now, and the tape is empty
            Due.tell(d, "%");
            Due.tell(c, "%");
            Due.is("all stays behind \"" + text + "\"", Look.at(c), Look.at(d));
            Due.is("all stays then behind \"" + text + "\"", Look.andThen(c), Look.andThen(d));
        }
    }

    /** What earlier texts told, with and without a FAULT, is nowhere in a later one. */
    private static void textBehindTexts() {
        Due.by("Promise 3: the first n bytes are the TEXT");
        String plain = "man x 3 5 1 1;man y 2 5 -9 0;ring x 1;ring y 1;meet x y 20;";
        String[] earlier = {"cold 0 200;", "crowd 100;", "crowd 30;seed 5;", "law talk 9;", "law late 9;", "law drift 9;",
            "man z 1 1 1 1;ring z 0;", AB + "meet a b 1;", "cold 0 200;crowd 100;law talk 9;law late 9;law drift 9;x",
            "man x 1 1 1 1;", "seed 9;seed", "crowd 60;crowd", "man a 1 1 1 1;man b", ""};
        for (String text : earlier) {
            toldBehind(text, plain);
            toldBehind(text, plain + "cold 3 9;crowd 70;seed 8;law talk 4;law late 0-3;law drift 2;");
        }
    }

    private static void toldBehind(String earlier, String later) {
        for (int times = 1; times <= 3; times++) {
            SpeakClock fresh = Due.told(later);
            SpeakClock c = new SpeakClock();
            for (int i = 0; i < times; i++) {
                Due.tell(c, earlier);
            }
            Due.tell(c, later);
            Due.is("told behind " + times + " times \"" + earlier + "\"", Look.at(c), Look.at(fresh));
            Due.is("then, behind " + times + " times \"" + earlier + "\"", Look.andThen(c), Look.andThen(fresh));
        }
    }

    private static void lawsBehindLaws() {
        Due.by("Terms: a 65th KNOT of all E: of one TEXT, not of those ahead of it");
        SpeakClock c = new SpeakClock();
        for (int i = 0; i < 8; i++) {
            Due.is("lines", Due.tell(c, A + "law talk " + KNOTS_63 + ";law late " + i + ";"), 3);
            Due.is("knots", c.count(3), 64);
            Due.is("talk", c.law(0, 0), 32);
            Due.is("late", c.law(1, 0), i);
        }
        Due.by("Terms: a ninth '(' open: none of a TEXT with a FAULT is still open");
        for (String faulty : new String[] {"law talk ((((((((1+", "law talk (1 and not ", "law talk 1*", "law talk not not",
            "law talk " + KNOTS_63 + "+1+"}) {
            Due.is("text", Due.tell(c, faulty), -1);
            Due.is("lines", Due.tell(c, A + "law drift ((((((((5))))))))-3;"), 2);
            Due.is("drift", c.law(2, 0), 2);
            Due.is("talk", c.law(0, 0), Long.MIN_VALUE);
        }
    }

    /** As many of everything as there can be: each call has its last place to look at. */
    private static void fullOfEverything() {
        Due.by("Terms: at most 6 PEOPLE, 10 RINGS, 6 MEETINGS, 3 colds, 64 KNOTS, 8 '('");
        StringBuilder text = new StringBuilder();
        for (char name = 'a'; name <= 'f'; name++) {
            text.append("man ").append(name).append(" 1 0 0 0;");
        }
        text.append(Due.times("ring f 0;", 9)).append("ring f 5;").append(Due.times("meet e f 9;", 5)).append("meet f a 9;");
        text.append("cold 90 90;cold 91 91;cold 5 5;law talk ((((((((").append(Due.times("not ", 62)).append("0))))))));");
        text.append("law late 0;");
        SpeakClock c = Due.told(text.toString());
        Due.is("knots", c.count(3), 64);
        // 62 times not of 0 is 0, so that a call is one minute, and in a cold two
        Due.is("talk", c.law(0, 5), 0);
        Due.is("all are kept", c.certain(), 63);
        Due.is("none is missed", c.firstMissed(0), -2);
        Due.is("agree", c.agree(0) * 100 + c.near(0) * 10 + c.liars(0), 0);
        Due.is("delay of the last one", c.delay(5), 1);
        Due.is("the last one's best ring", c.bestRing(5, 60, 1), 1);
        Due.is("needs of the last one", c.needs(5), 0);
        Due.is("six rings more", c.ring(0) + c.ring(1) + c.ring(2) + c.ring(3) + c.ring(4) + c.ring(5), 15);
        c.go(5);
        Due.is("f is told as the sixth one, behind its ring in 0", c.count(7), 5);
        c.go(1);
        Due.is("f talks in the last cold", c.man(5, 4) * 10 + c.man(5, 6), 20);
        c.go(1);
        Due.is("told in all", c.count(7), 6);
        c.go(3);
        Due.is("kept", c.count(8), 6);
        Due.is("missed", c.count(9), 0);
        Due.is("there", c.there(5), 63);
        Due.is("median", c.median() * 10 + c.latest(), 30);
        Due.is("an odd one of 63 nots", Due.told(A + "law drift ((((((((" + Due.times("not ", 63) + "1))))))));").law(2, 0), 0);
        Due.is("an even one", Due.told(A + "law drift ((((((((" + Due.times("not ", 62) + "1))))))));").law(2, 0), 1);
    }

    private static void fault() {
        Due.by("Promise 4: of the latest text() that was not -2, 0: its FAULT (0), 1: its place (NONE without)");
        SpeakClock c = new SpeakClock();
        Due.is("fault(0) ahead of any text", c.fault(0), 0);
        Due.is("fault(1) ahead of any text", c.fault(1), -1);
        Due.tell(c, "crowd 101;");
        Due.is("fault(0)", c.fault(0), 2);
        Due.is("fault(1)", c.fault(1), 6);
        c.text(1);
        c.text(-1);
        Due.is("fault(0) behind -2", c.fault(0), 2);
        Due.is("fault(1) behind -2", c.fault(1), 6);
        Due.tell(c, "crowd 100;");
        Due.is("fault(0) without", c.fault(0), 0);
        Due.is("fault(1) without", c.fault(1), -1);
        Due.by("Promise 4: NONE for another what");
        Due.tell(c, "ring a 1;");
        for (int what : new int[] {-1, 2, 3, Integer.MIN_VALUE, Integer.MAX_VALUE}) {
            Due.is("fault(" + what + ")", c.fault(what), -1);
        }
    }

    private static int letters(String name) {
        int bits = 0;
        for (int i = 0; i < 6; i++) {
            bits = bits * 32 + (i < name.length() ? name.charAt(i) - 'a' + 1 : 0);
        }
        return bits;
    }

    private static void named() {
        Due.by("Promise 5: 5 bits each, a is 1, the first one highest of six, 0 behind the last one");
        String[] names = {"a", "z", "aa", "abcdef", "zzzzzz", "azazaz"};
        StringBuilder text = new StringBuilder();
        for (String name : names) {
            text.append("man ").append(name).append(" 1 1 1 1;");
        }
        SpeakClock c = Due.told(text.toString());
        for (int i = 0; i < names.length; i++) {
            Due.is("named(" + names[i] + ")", c.named(letters(names[i])), i);
        }
        Due.is("a is 1, highest of six", letters("a"), 33554432);
        Due.by("Promise 5: NONE: there is none such");
        for (String name : new String[] {"", "b", "az", "aaa", "abcde", "zzzzz", "zazaza"}) {
            Due.is("named(" + name + ")", c.named(letters(name)), -1);
        }
        int[] others = {1, 26, -1, Integer.MIN_VALUE, Integer.MAX_VALUE, letters("a") | 1 << 30, letters("a") | 1 << 31,
            letters("a") + 1, letters("zzzzzz") + 1, letters("abcdef") - 1};
        for (int bits : others) {
            Due.is("named(" + bits + ")", c.named(bits), -1);
        }
        Due.is("named(0) of nobody", new SpeakClock().named(0), -1);
    }

    private static void law() {
        Due.by("Promise 9: Long.MIN_VALUE: no such law, no such ones");
        SpeakClock c = Due.told(AB + "law talk 3;law drift 5;");
        Due.is("law(0, 0)", c.law(0, 0), 3);
        Due.is("law(2, 1)", c.law(2, 1), 5);
        long[][] none = {{1, 0}, {-1, 0}, {3, 0}, {0, -1}, {0, 2}, {0, 6}, {Integer.MAX_VALUE, 0}, {Integer.MIN_VALUE, 0},
            {0, Integer.MAX_VALUE}, {0, Integer.MIN_VALUE}};
        for (long[] one : none) {
            Due.is("law(" + one[0] + ", " + one[1] + ")", c.law((int) one[0], (int) one[1]), Long.MIN_VALUE);
        }
        Due.is("law(0, 0) of a new object", new SpeakClock().law(0, 0), Long.MIN_VALUE);
        Due.by("Promise 9: queue as it is now, of late AHEAD");
        c = Due.told(AB + "law talk queue;law late queue;law drift queue;");
        Due.is("talk, the queue empty", c.law(0, 0), 0);
        c.ring(1);
        c.ring(0);
        long[] due = {2, 1, 2};
        for (int what = 0; what < 3; what++) {
            Due.is("law(" + what + ", 0) with two in the queue", c.law(what, 0), due[what]);
        }
        Due.is("law(1, 1): none was ahead", c.law(1, 1), 0);
        c.hangUp(1);
        Due.is("law(1, 0): one was ahead then", c.law(1, 0), 1);
        Due.is("law(0, 0): one is there now", c.law(0, 0), 1);
    }

    private static long worth(String formula) {
        return Due.told("man a 7 3 -4 5;law drift " + formula + ";").law(2, 0);
    }

    private static void values() {
        String most = "1000*1000*1000*1000";
        Due.by("==== 2: ERROR: a value above 10 to the 12");
        Due.is(most, worth(most), 1000000000000L);
        Due.is("one more by +", worth(most + "+1"), Long.MIN_VALUE);
        Due.is("one more by -", worth(most + "-(0-1)"), Long.MIN_VALUE);
        String third = "((1000*1000+1)*(1000*1000-1)/3";
        Due.is("one less by *", worth(third + ")*3"), 999999999999L);
        Due.is("two more by *", worth(third + "+1)*3"), Long.MIN_VALUE);
        Due.is("times 2", worth(most + "*2"), Long.MIN_VALUE);
        Due.is("by itself", worth("(" + most + ")*(" + most + ")"), Long.MIN_VALUE);
        // 2 to the 32, times itself: nothing would be left in 64 bits
        Due.is("2 to the 64", worth("(4096*4096*256)*(4096*4096*256)"), Long.MIN_VALUE);
        Due.is("2 to the 64, the one much less", worth("(4096*4096*64)*(4096*4096*1024)"), Long.MIN_VALUE);
        Due.is("2 to the 64 and more", worth("(4096*4096*256)*(4096*4096*256+1)"), Long.MIN_VALUE);
        Due.is("-2 to the 64", worth("(4096*4096*256)*(0-4096*4096*256)"), Long.MIN_VALUE);
        Due.is("both below 0", worth("(0-" + most + ")*(0-" + most + ")"), Long.MIN_VALUE);
        Due.is("less again", worth(most + "+1-1"), Long.MIN_VALUE);
        Due.is("compared", worth("0 < " + most + "+1"), Long.MIN_VALUE);
        Due.by("==== 2: ERROR: below 0 by more than that");
        Due.is("0-" + most, worth("0-" + most), -1000000000000L);
        Due.is("one less by -", worth("0-" + most + "-1"), Long.MIN_VALUE);
        Due.is("one less by +", worth("(0-1)+(0-" + most + ")"), Long.MIN_VALUE);
        Due.is("times -2", worth(most + "*(0-2)"), Long.MIN_VALUE);
        Due.is("-1 times", worth(most + "*(0-1)"), -1000000000000L);
        Due.by("==== 2: ERROR: / by 0");
        for (String formula : new String[] {"1/0", "0/0", "off/(talks-7)", "1+1/0", "not (1/0)", "1/0=1/0", "1/0<>1"}) {
            Due.is(formula, worth(formula), Long.MIN_VALUE);
        }
        Due.is("1/(0-1)", worth("1/(0-1)"), -1);
        Due.by("==== 2: both sides are worked out");
        for (String formula : new String[] {"0 and 1/0", "1/0 and 0", "1 or 1/0", "1/0 or 1", "0*(1/0)"}) {
            Due.is(formula, worth(formula), Long.MIN_VALUE);
        }
        Due.by("==== 2: / is cut towards 0");
        Due.is("7/2", worth("7/2"), 3);
        Due.is("(0-7)/2", worth("(0-7)/2"), -3);
        Due.is("7/(0-2)", worth("7/(0-2)"), -3);
        Due.is("(0-7)/(0-2)", worth("(0-7)/(0-2)"), 3);
        Due.is("(0-1)/2", worth("(0-1)/2"), 0);
        Due.by("==== 2: comparisons, and, or, not are 1 or 0 (what isn't 0 is as 1)");
        String[] ones = {"1<2", "2<=2", "2=2", "1<>2", "2>=2", "3>2", "2 and 4", "0 or 8", "8 or 0", "not 0", "not not 9",
            "(0-1) and 1", "(0-3) or 0", "0-1<0", "0-9999<=0-9999"};
        for (String formula : ones) {
            Due.is(formula, worth(formula), 1);
        }
        String[] noughts = {"2<2", "3<=2", "2=3", "2<>2", "1>=2", "2>2", "0 and 4", "4 and 0", "0 or 0", "not 1", "not 9",
            "not (0-1)", "not not 0"};
        for (String formula : noughts) {
            Due.is(formula, worth(formula), 0);
        }
    }
}
