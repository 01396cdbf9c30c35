/** Promises 1 to 5 and 9: the tape, the text, its faults, names and laws. */
public final class TextTest {
    private static final long NO_VALUE = Long.MIN_VALUE;

    public static void main(String[] args) {
        newObject();
        feed();
        text();
        textSetsAllAnew();
        faultOfLines();
        faultOfNumbers();
        faultOfTooMany();
        faultOfNames();
        faultOfLaws();
        fineTexts();
        named();
        lawValues();
        lawErrors();
        lawBindings();
        Due.end();
    }

    private static void newObject() {
        SpeakClock c = new SpeakClock();
        int[] counts = {0, 0, 0, 0, 0, 0, 0, 0, 0, 0, 0, 0, 0, 0};
        for (int what = 0; what < counts.length; what++) {
            Due.is("count(" + what + ") of a new object", c.count(what), counts[what]);
        }
        Due.is("fault(0) of a new object", c.fault(0), 0);
        Due.is("fault(1) of a new object", c.fault(1), -1);
        Due.is("text(1) of a new object", c.text(1), -2);
        Due.is("back() of a new object", c.back(), -1);
        Due.is("go(200) of a new object", c.go(200), 200);
        Due.is("NONE", SpeakClock.NONE, -1);
    }

    private static void feed() {
        SpeakClock c = new SpeakClock();
        int blanks = 0x20202020;
        for (int i = 1; i <= 35; i++) {
            Due.is("feed " + i, c.feed(blanks, blanks, blanks, blanks, blanks), 20 * i);
        }
        Due.is("feed 36", c.feed(blanks, blanks, blanks, blanks, blanks), -1);
        Due.is("text(701)", c.text(701), -2);
        Due.is("text(700)", c.text(700), 0);
        Due.is("feed behind text", c.feed(blanks, blanks, blanks, blanks, blanks), 20);
        // the highest byte first: "crowd 5;" is 63 72 6f 77 64 20 35 3b
        c = new SpeakClock();
        c.feed(0x63726f77, 0x6420353b, blanks, blanks, blanks);
        Due.is("text of bytes", c.text(8), 1);
        c.feed(0x636f6c64, 0x20352036, 0x3bffffff, -1, 0x80000000);
        Due.is("text up to bytes that are none", c.text(9), 1);
        c.feed(0x636f6c64, 0x20352036, 0x3bffffff, -1, 0x80000000);
        Due.is("text with a byte that is none", c.text(10), -1);
        Due.is("its place", c.fault(1), 9);
    }

    private static void text() {
        SpeakClock c = Due.told(Due.THREE);
        Due.is("lines", Due.tell(c, Due.THREE), 8);
        c.ring(0);
        c.see(5, 0, 5, true);
        c.keep();
        c.go(3);
        c.set(1, 4);
        Due.is("a faulty text", Due.tell(c, "man"), -1);
        Due.is("people stay", c.count(0), 3);
        Due.is("the minute stays", c.count(4), 3);
        Due.is("what was seen stays", c.count(11), 1);
        Due.is("what can be undone stays", c.count(13), 1);
        Due.is("the tape is empty", c.text(1), -2);
        Due.is("the image stays", c.back(), 0);
        Due.is("text(-1)", c.text(-1), -2);
        Due.is("the fault is that of the latest text but -2", c.fault(0), 1);
        c.feed(0, 0, 0, 0, 0);
        Due.is("text(21)", c.text(21), -2);
        Due.is("the tape stays", c.feed(0, 0, 0, 0, 0), 40);
        Due.is("text(0)", c.text(0), 0);
        Due.is("text(0) empties the tape", c.text(1), -2);
        Due.is("text(0) tells nobody", c.count(0), 0);
        Due.is("text(0) has no fault", c.fault(0), 0);
    }

    private static void textSetsAllAnew() {
        SpeakClock c = Due.told("man a 2 5 0 0;man b 2 5 0 0;meet a b 5;crowd 100;law talk 7;");
        c.ring(0);
        c.see(5, 0, 5, true);
        c.known(0);
        c.keep();
        c.go(9);
        c.ring(1);
        Due.tell(c, "man a 2 5 3 0;man b 2 5 0 0;meet a b 5;");
        int[] counts = {2, 0, 1, 0, 0, 0, 0, 0, 0, 0, 0, 0, 0, 0};
        for (int what = 0; what < counts.length; what++) {
            Due.is("count(" + what + ") of a new text", c.count(what), counts[what]);
        }
        Due.is("no image", c.back(), -1);
        Due.is("nothing to undo", c.undo(), -1);
        Due.is("off of the text", c.man(0, 2), 3);
        Due.is("ahead", c.man(1, 5), 0);
        Due.is("nobody came", c.meeting(0, 4), -1);
        Due.is("no law", c.law(0, 0), NO_VALUE);
        c.see(5, 0, 9, true);
        Due.is("all known", c.count(12), 1);
        nothingIsLeftOfEarlierTexts();
    }

    private static void nothingIsLeftOfEarlierTexts() {
        SpeakClock c = Due.told("man a 2 5 0 0;crowd 30;seed 5;cold 0 9;law talk 7;law late 7;law drift 7;");
        Due.tell(c, "man b 1 1 1 1;law talk 1/");
        Due.tell(c, "man a 2 5 0 0;crowd 30;");
        SpeakClock d = Due.told("man a 2 5 0 0;crowd 30;");
        Due.tell(c, "man a 2 5 0 0;crowd 30;");
        for (int law = 0; law < 3; law++) {
            Due.is("no law " + law, c.law(law, 0), NO_VALUE);
        }
        c.ring(0);
        d.ring(0);
        c.go(200);
        d.go(200);
        for (int what = 0; what < 14; what++) {
            Due.is("count(" + what + ") of a later text", c.count(what), d.count(what));
        }
        Due.is("off of a later text", c.man(0, 2), d.man(0, 2));
        Due.is("nobody is named b", c.named(2 << 25), -1);
    }

    private static void faultOfLines() {
        Due.faulty("man", 1, 3);
        Due.faulty("man  \n", 1, 6);
        Due.faulty(";", 1, 0);
        Due.faulty("cold 1 2;;", 1, 9);
        Due.faulty("cold 1 2", 1, 8);
        Due.faulty("cold 1;", 1, 6);
        Due.faulty("cold 1 2 3;", 1, 9);
        Due.faulty("a", 1, 0);
        Due.faulty("talk", 1, 0);
        Due.faulty("12", 1, 0);
        Due.faulty("Man a 1 1 1 1;", 1, 0);
        Due.faulty("man a 1 1 1 1;\tring a 1;", 1, 14);
        Due.faulty("man a 1 1 1 1,", 1, 13);
        Due.faulty("man a -1 1 1 1;", 1, 6);
        Due.faulty("man a 1 -1 1 1;", 1, 8);
        Due.faulty("man a 1 1 --1 1;", 1, 11);
        Due.faulty("man a 1 1 +1 1;", 1, 10);
        Due.faulty("man a 1 1 1 -;", 1, 13);
        Due.faulty("cold -1 2;", 1, 5);
        Due.faulty("crowd;", 1, 5);
        Due.faulty("seed x;", 1, 5);
        Due.faulty("crowd 10 seed", 1, 9);
    }

    private static void faultOfNumbers() {
        Due.faulty("man a 0 1 1 1;", 2, 6);
        Due.faulty("man a 10 1 1 1;", 2, 6);
        Due.faulty("man a 1 31 1 1;", 2, 8);
        Due.faulty("man a 1 1 31 1;", 2, 10);
        Due.faulty("man a 1 1 - 31 1;", 2, 12);
        Due.faulty("man a 1 1 1 10;", 2, 12);
        Due.faulty("man a 1 1 1 -10;", 2, 13);
        Due.faulty("man a 1 1 1 99999999999999999999999;", 2, 12);
        Due.faulty("man a 1 1 1 1;ring a 201;", 2, 21);
        Due.faulty("man a 1 1 1 1;man b 1 1 1 1;meet a b 301;", 2, 37);
        Due.faulty("cold 201 201;", 2, 5);
        Due.faulty("cold 5 4;", 2, 7);
        Due.faulty("cold 5 201;", 2, 7);
        Due.faulty("crowd 101;", 2, 6);
        Due.faulty("seed 100000;", 2, 5);
        Due.faulty("seed 4294967296;", 2, 5);
        Due.faulty("law talk 10000;", 2, 9);
        Due.faulty("law talk 4294967297;", 2, 9);
    }

    private static void faultOfTooMany() {
        String six = "man a 1 1 1 1;man b 1 1 1 1;man c 1 1 1 1;man d 1 1 1 1;man e 1 1 1 1;man f 1 1 1 1;";
        Due.fine(six, 6);
        Due.faulty(six + "man", 2, 84);
        Due.faulty(six + " man a", 2, 85);
        String man = "man a 1 1 1 1;man b 1 1 1 1;";
        Due.fine(man + Due.times("ring a 1;", 10), 12);
        Due.faulty(man + Due.times("ring a 1;", 10) + "ring x", 2, 28 + 90);
        Due.fine(man + Due.times("meet a b 1;", 6), 8);
        Due.faulty(man + Due.times("meet a b 1;", 6) + "meet", 2, 28 + 66);
        Due.fine(Due.times("cold 1 1;", 3), 3);
        Due.faulty(Due.times("cold 1 1;", 3) + "cold 9 1;", 2, 27);
        Due.fine("law talk ((((((((1))))))))+((1));", 1);
        Due.faulty("law talk ((((((((1+(", 2, 19);
        Due.fine("law talk ((((((((" + Due.times("not ", 63) + "1))))))));", 1);
        Due.faulty("law talk ((((((((" + Due.times("not ", 64) + "1", 2, 17 + 256);
        String knots63 = Due.times("1+", 31) + "1";
        Due.fine("law talk " + knots63 + ";law late 1;", 2);
        Due.faulty("law talk " + knots63 + ";law late 1+1;", 2, 9 + 63 + 11);
        Due.faulty("law talk " + knots63 + ";law late 1 + ;", 2, 9 + 63 + 12);
        Due.faulty("law talk " + knots63 + ";law late 1;law drift off;", 2, 9 + 63 + 1 + 11 + 10);
        Due.faulty("law talk " + knots63 + ";law late 1 1;", 1, 9 + 63 + 12);
        Due.faulty("law talk " + knots63 + ";law late 1;law drift x;", 1, 9 + 63 + 1 + 11 + 10);
    }

    private static void faultOfNames() {
        Due.faulty("man a 1 1 1 1;man a", 3, 18);
        Due.faulty("man abcdefg 1 1 1 1;", 1, 4);
        Due.faulty("man minutes 1 1 1 1;", 1, 4);
        Due.faulty("man off 1 1 1 1;", 1, 4);
        Due.faulty("man 1 1 1 1;", 1, 4);
        Due.faulty("ring a 1;", 4, 5);
        Due.faulty("ring man 1;", 1, 5);
        Due.faulty("ring abcdefg 1;", 1, 5);
        Due.faulty("ring a 1;man a 1 1 1 1;", 4, 5);
        Due.faulty("man a 1 1 1 1;meet a b 1;", 4, 21);
        Due.faulty("man a 1 1 1 1;meet b a 1;", 4, 19);
        Due.faulty("man a 1 1 1 1;meet a a 999;", 5, 21);
        Due.faulty("man a 1 1 1 1;meet a;", 1, 20);
        Due.faulty("crowd 1;crowd", 3, 8);
        Due.faulty("seed 0;seed 0;", 3, 7);
        Due.faulty("law talk 1;law late 1;law talk", 3, 26);
    }

    private static void faultOfLaws() {
        Due.faulty("law", 1, 3);
        Due.faulty("law off 1;", 1, 4);
        Due.faulty("law talk;", 1, 8);
        Due.faulty("law talk talk;", 1, 9);
        Due.faulty("law talk a;", 1, 9);
        Due.faulty("law talk -1;", 1, 9);
        Due.faulty("law talk 1 2;", 1, 11);
        Due.faulty("law talk 1 +;", 1, 12);
        Due.faulty("law talk 1 + + 2;", 1, 13);
        Due.faulty("law talk ();", 1, 10);
        Due.faulty("law talk (1;", 1, 11);
        Due.faulty("law talk (1", 1, 11);
        Due.faulty("law talk 1);", 1, 10);
        Due.faulty("law talk 1(2);", 1, 10);
        Due.faulty("law talk 1 < 2 < 3;", 1, 15);
        Due.faulty("law talk 1 = 2 + 1 <> 3;", 1, 19);
        Due.faulty("law talk 1 < = 2;", 1, 13);
        Due.faulty("law talk 1 =< 2;", 1, 12);
        Due.faulty("law talk 1 >> 2;", 1, 12);
        Due.faulty("law talk 1 >< 2;", 1, 12);
        Due.faulty("law talk 1 <=> 2;", 1, 13);
        Due.faulty("law talk 1 <>= 2;", 1, 13);
        Due.faulty("law talk 1 + not 2;", 1, 13);
        Due.faulty("law talk 1 < not 2;", 1, 13);
        Due.faulty("law talk 1 not 2;", 1, 11);
        Due.faulty("law talk not;", 1, 12);
        Due.faulty("law talk 1 and or 2;", 1, 15);
        Due.faulty("law talk 1 % 2;", 1, 11);
        Due.faulty("law talk 1;law talk", 3, 15);
    }

    private static void fineTexts() {
        Due.fine("", 0);
        Due.fine(" \n ", 0);
        Due.fine("man a1 2 3-4;", 1);
        Due.fine("man\na\n9 30 30 9 ;man mans 1 0 -30 - 9;", 2);
        Due.fine("man abcdef 001 000 -0 -0;", 1);
        Due.fine("man a 1 1 1 1;man b 1 1 1 1;ring a 200;ring b 0;meet a b 0;meet b a 300;", 6);
        Due.fine("cold 0 0;cold 200 200;crowd 100;seed 99999;", 4);
        Due.fine("law talk not 1<2 and not(3>=4)or 5<>6;law late(1<2)<3;law drift 0-9999;", 3);
    }

    private static void named() {
        SpeakClock c = Due.told("man a 1 1 1 1;man ab 1 1 1 1;man abcdef 1 1 1 1;man zzzzzz 1 1 1 1;");
        Due.is("named(a)", c.named(1 << 25), 0);
        Due.is("named(ab)", c.named(1 << 25 | 2 << 20), 1);
        Due.is("named(abcdef)", c.named(1 << 25 | 2 << 20 | 3 << 15 | 4 << 10 | 5 << 5 | 6), 2);
        Due.is("named(zzzzzz)", c.named(26 << 25 | 26 << 20 | 26 << 15 | 26 << 10 | 26 << 5 | 26), 3);
        Due.is("named(0)", c.named(0), -1);
        Due.is("named(1)", c.named(1), -1);
        Due.is("named with bits above 30", c.named(1 << 25 | 1 << 30), -1);
        Due.is("named below 0", c.named(1 << 25 | 1 << 31), -1);
        Due.is("named(b)", c.named(2 << 25), -1);
        Due.is("named of nobody", new SpeakClock().named(0), -1);
    }

    private static void lawValues() {
        SpeakClock c = Due.told("man a 7 3 -4 5;man b 1 1 1 1;ring b 0;ring a 0;"
                + "law talk (queue*100+minute*10+told)*(minute>0);law late queue*100+minute;law drift off*100+talks*10+waits+rate;");
        Due.is("talk", c.law(0, 0), 0);
        Due.is("late", c.law(1, 0), 0);
        Due.is("drift", c.law(2, 0), -400 + 70 + 3 + 5);
        c.go(1);
        // b talks (0 of talk is 1 minute) and is told; a waits behind with one ahead
        Due.is("talk with the queue as it is", c.law(0, 0), 110);
        Due.is("late with those ahead", c.law(1, 0), 101);
        Due.is("talk of b, who was told", c.law(0, 1), 111);
        c.ring(1);
        Due.is("queue of two", c.law(0, 0), 210);
        Due.is("law(3)", c.law(3, 0), NO_VALUE);
        Due.is("law(-1)", c.law(-1, 0), NO_VALUE);
        Due.is("law of nobody", c.law(0, 2), NO_VALUE);
        Due.is("law of -1", c.law(0, -1), NO_VALUE);
        Due.is("law that isn't told", Due.told("man a 1 1 1 1;law talk 1;").law(1, 0), NO_VALUE);
    }

    private static long worth(String formula) {
        return Due.told("man a 7 3 -4 5;law drift " + formula + ";").law(2, 0);
    }

    private static void lawErrors() {
        Due.is("/ 0", worth("1/0"), NO_VALUE);
        Due.is("0 / 0 and 0", worth("0 and 1/0"), NO_VALUE);
        Due.is("1 or an error", worth("1 or 1/(talks-7)"), NO_VALUE);
        Due.is("not an error", worth("not 1/0"), NO_VALUE);
        Due.is("10 to the 12", worth("1000*1000*1000*1000"), 1000000000000L);
        Due.is("below 0 by 10 to the 12", worth("0-1000*1000*1000*1000"), -1000000000000L);
        Due.is("one more", worth("1000*1000*1000*1000+1"), NO_VALUE);
        Due.is("one less", worth("0-1000*1000*1000*1000-1"), NO_VALUE);
        Due.is("more, then less", worth("1000*1000*1000*1000+1-1"), NO_VALUE);
        Due.is("beyond a long", worth("(1000*1000*1000*1000)*(1000*1000*1000*1000)"), NO_VALUE);
        Due.is("round a long", worth("4294*1000*1000*4294*1000*1000"), NO_VALUE);
        Due.is("beyond, times 0", worth("1000*1000*1000*1000*10*0"), NO_VALUE);
        Due.is("0 times", worth("0*1000*1000*1000*1000"), 0);
        Due.is("less than nothing", worth("(0-1)*1000*1000*1000*1000"), -1000000000000L);
        Due.is("less than that", worth("(0-1)*1000*1000*1000*1000*2"), NO_VALUE);
    }

    private static void lawBindings() {
        Due.is("1+2*3", worth("1+2*3"), 7);
        Due.is("(1+2)*3", worth("(1+2)*3"), 9);
        Due.is("10-3-2", worth("10-3-2"), 5);
        Due.is("100/7/2", worth("100/7/2"), 7);
        Due.is("7*3/2", worth("7*3/2"), 10);
        Due.is("off/3", worth("off/3"), -1);
        Due.is("cut towards 0", worth("(0-7)/2"), -3);
        Due.is("7/(0-2)", worth("7/(0-2)"), -3);
        Due.is("1 or 0 and 0", worth("1 or 0 and 0"), 1);
        Due.is("(1 or 0) and 0", worth("(1 or 0) and 0"), 0);
        Due.is("not 1 = 2", worth("not 1 = 2"), 1);
        Due.is("(not 1) = 2", worth("(not 1) = 2"), 0);
        Due.is("not 0 and 0", worth("not 0 and 0"), 0);
        Due.is("not (0 and 0)", worth("not (0 and 0)"), 1);
        Due.is("not not 5", worth("not not 5"), 1);
        Due.is("5 and 7", worth("5 and 7"), 1);
        Due.is("0 or 7", worth("0 or 7"), 1);
        Due.is("1+1<2+1", worth("1+1<2+1"), 1);
        Due.is("2<2", worth("2<2"), 0);
        Due.is("2<=2", worth("2<=2"), 1);
        Due.is("2=2", worth("2=2"), 1);
        Due.is("2<>2", worth("2<>2"), 0);
        Due.is("2>=2", worth("2>=2"), 1);
        Due.is("3>=4", worth("3>=4"), 0);
        Due.is("2>2", worth("2>2"), 0);
        Due.is("3>2", worth("3>2"), 1);
        Due.is("(1<2)+5", worth("(1<2)+5"), 6);
        Due.is("not 5", worth("not 5"), 0);
        Due.is("2+not in brackets", worth("2+(not 5)"), 2);
        Due.is("1 and 1", worth("1 and 1"), 1);
        Due.is("0 and 1", worth("0 and 1"), 0);
        Due.is("0 or 0", worth("0 or 0"), 0);
        Due.is("0 or 1", worth("0 or 1"), 1);
        Due.is("1 or 0", worth("1 or 0"), 1);
        Due.is("3<=2", worth("3<=2"), 0);
        Due.is("2<>3", worth("2<>3"), 1);
        Due.is("2=3", worth("2=3"), 0);
        Due.is("9999", worth("9999"), 9999);
        Due.is("knots", Due.told("law talk not (off+1)<=2 and 3 or 4;").count(3), 10);
    }
}
