/** The boundary cases of both languages, as the document's terms name them: STAIRS, RULES, and their FAULTS. */
public final class TextBoundaryTest extends Sentences {
    private static final String PAIR = "level 5 1;level 5 1;";
    private static final String ONE = "level 9 8;level 0 8;barge 9 0 0 0";
    // 99999 * 99999 * 99999 * 9999 is odd, and below 0 in 64 bits
    private static final String BELOW_0 = "99999*99999*99999*9999";

    public static void main(String[] args) throws Exception {
        new TextBoundaryTest().report();
    }

    @Override
    void prove() {
        heading("Terms");
        clauses();
        levels();
        barges();
        lakes();
        ruleClauses();
        signs();
        words();
        reckoning();
        depth();
        faultPlaces();
        faultKinds();
        faultsOfOrder();
    }

    private void counted(String text, int what, int want) {
        due("count(" + what + ") of " + text, stair(text).count(what), want);
    }

    /** A test that is asked of the tip at step 0 by which barge 0 goes down. */
    private void bars(String stair, String test, boolean isBarred) {
        WaterStair x = stair(stair);
        force(x, "bar " + test);
        due("barred by " + test, x.may(0, 0, NONE) == -7, isBarred);
    }

    // ---------------------------------------------------------------- the text of a stair

    private void clauses() {
        holds("A STAIR is a text of at most 400 bytes", () -> {
            WaterStair x = stair(" ".repeat(381) + "level 1 1;level 2 2");
            due("water that the last bytes tell", x.level(1, 1), 2);
            stairFault(" ".repeat(399) + "x", 399, 0);
            stairFault(" ".repeat(400), 400, 0);
        });
        holds("CLAUSE { ; CLAUSE }, 32 at most", () -> {
            String most = PAIR + "broken 0;".repeat(29) + "broken 0";
            counted(most, 0, 2);
            stairFault(most + ";broken 0", most.length() + 1, 4);
            stairFault("level 1 1;;level 1 1", 10, 0);
            stairFault(";level 1 1;level 1 1", 0, 0);
            stairFault("level 1 1;level 1 1;", 20, 0);
            stairFault("level 1 1 level 1 1", 10, 0);
        });
        holds("lag NUMBER (0 to 20;", () -> {
            counted(PAIR + "lag 0", 8, 0);
            counted(PAIR + "lag 20", 8, 20);
            stairFault(PAIR + "lag 21", 24, 1);
        });
        holds("once at most,", () -> {
            stairFault(PAIR + "lag 0;lag 0", 26, 4);
            stairFault("lag 3;" + PAIR + "lag 3", 26, 4);
        });
        holds("0 without)", () -> {
            WaterStair x = stair(PAIR + "lag 7");
            tell(x, "level 5 1;level 5 1");
            due("stair", x.stair(), 2);
            due("lag", x.count(8), 0);
        });
    }

    private void levels() {
        holds("(WATER 0 to 999 tons,", () -> {
            WaterStair x = stair("level 0 1;level 999 1");
            due("water 0", x.level(0, 0), 0);
            due("water 1", x.level(1, 0), 999);
            stairFault("level 1000 1;level 1 1", 6, 1);
        });
        holds("SEATS 1 to 8)", () -> {
            WaterStair x = stair("level 1 1;level 1 8");
            due("seats 0", x.level(0, 1), 1);
            due("seats 1", x.level(1, 1), 8);
            stairFault("level 1 0;level 1 1", 8, 1);
            stairFault("level 1 9;level 1 1", 8, 1);
        });
        holds("LEVELS 2 to 8,", () -> {
            stairFault("level 5 1", 9, 0);
            counted("level 5 1" + ";level 5 1".repeat(1), 0, 2);
            counted("level 5 1" + ";level 5 1".repeat(7), 0, 8);
            stairFault("level 5 1" + ";level 5 1".repeat(8), 80, 4);
        });
        holds("the upper lake first, all ahead of BARGES and broken ones;", () -> {
            WaterStair x = stair("lag 1;level 1 2;level 3 4;level 5 6;barge 1 0 0 0;broken 0;barge 1 0 0 0");
            due("the first told is level 0", x.level(0, 0), 1);
            due("the last told is the last", x.level(2, 0), 5);
            stairFault(PAIR + "barge 1 0 0 0;level 5 1", 34, 4);
            stairFault(PAIR + "broken 0;level 5 1", 29, 4);
        });
        holds("broken NUMBER (a STEP)", () -> {
            WaterStair x = stair("level 1 1" + ";level 1 1".repeat(7) + ";broken 6;broken 0;broken 6");
            due("chain 0", x.level(0, 3), 0);
            due("chain 1", x.level(1, 3), 1);
            due("chain 6", x.level(6, 3), 0);
            stairFault("level 1 1" + ";level 1 1".repeat(7) + ";broken 7", 87, 1);
        });
        holds("which is whole if it is not told broken", () -> {
            WaterStair x = stair(PAIR + "broken 0");
            tell(x, "level 5 1;level 5 1");
            due("stair", x.stair(), 2);
            due("chain 0", x.level(0, 3), 1);
        });
    }

    private void barges() {
        holds("(WEIGHT 1 to 99,", () -> {
            WaterStair x = stair(PAIR + "barge 1 0 0 0;barge 99 0 0 0");
            due("weight 0", x.barge(0, 1), 1);
            due("weight 1", x.barge(1, 1), 99);
            stairFault(PAIR + "barge 0 0 0 0", 26, 1);
            stairFault(PAIR + "barge 100 0 0 0", 26, 1);
        });
        holds("WIDE 0 or 1,", () -> {
            WaterStair x = stair(PAIR + "barge 1 0 0 0;barge 1 1 0 0");
            due("wide 0", x.barge(0, 2), 0);
            due("wide 1", x.barge(1, 2), 1);
            stairFault(PAIR + "barge 1 2 0 0", 28, 1);
        });
        holds("WAY 0 down, 1 up,", () -> {
            WaterStair x = stair(PAIR + "barge 1 0 0 0;barge 1 0 1 0");
            due("way 0", x.barge(0, 3), 0);
            due("way 1", x.barge(1, 3), 1);
            stairFault(PAIR + "barge 1 0 2 0", 30, 1);
        });
        holds("TOLL 0 to 999)", () -> {
            WaterStair x = stair(PAIR + "barge 1 0 0 0;barge 1 0 0 999");
            due("toll 0", x.barge(0, 4), 0);
            due("toll 1", x.barge(1, 4), 999);
            stairFault(PAIR + "barge 1 0 0 1000", 32, 1);
        });
        holds("BARGES 0 to 5, in the order told.", () -> {
            counted("level 5 1;level 5 1", 1, 0);
            WaterStair x = stair(PAIR + "barge 1 0 0 0;barge 2 0 0 0;barge 3 0 0 0;barge 4 0 0 0;barge 5 0 0 0;barge 6 0 0 0");
            due("barges", x.count(1), 6);
            for (int barge = 0; barge < 6; barge++) {
                due("weight of " + barge, x.barge(barge, 1), barge + 1);
            }
            due("barge 6", x.barge(6, 1), NONE);
        });
        holds("A BARGE that goes down is at LEVEL 0 at first, one that goes up at the last one;", () -> {
            WaterStair x = stair("level 5 1" + ";level 5 1".repeat(7) + ";barge 1 0 0 0;barge 1 0 1 0");
            due("barge 0", x.barge(0, 0), 0);
            due("barge 1", x.barge(1, 0), 7);
            x = stair(PAIR + "barge 1 0 0 0;barge 1 0 1 0");
            due("barge 0 of two levels", x.barge(0, 0), 0);
            due("barge 1 of two levels", x.barge(1, 0), 1);
        });
        holds("it is HOME at the other end.", () -> {
            WaterStair x = stair("level 9 1;level 9 1;level 9 1;barge 9 0 0 0;barge 1 0 1 0");
            due("at their begin", x.count(2), 0);
            x.tip(0, 0, NONE);
            x.tip(1, 0, 1);
            due("0 at the last level", x.barge(0, 5), 1);
            due("1 in between", x.barge(1, 5), 0);
            x.tip(0, NONE, 1);
            due("1 at level 0", x.barge(1, 5), 1);
        });
    }

    private void lakes() {
        holds("In both lakes (the first and the last LEVEL) SEATS are not asked.", () -> {
            WaterStair x = stair("level 9 1;level 9 1;barge 9 0 0 0;barge 9 0 0 0;barge 1 0 1 0;barge 1 0 1 0");
            due("barges at level 0", x.level(0, 2), 3);
            due("a third to level 1", x.may(0, 0, NONE), 0);
            due("a third to level 0", x.may(0, NONE, 2), 1);
            x = stair("level 9 1;level 9 1;level 9 1;barge 9 0 0 0;barge 9 0 0 0");
            due("from the first", x.tip(0, 0, NONE), 0);
            due("to the last", x.tip(1, 0, NONE), 0);
            due("from the first", x.tip(0, 1, NONE), 0);
            due("to the last, where one is", x.tip(1, 1, NONE), 0);
        });
    }

    // ---------------------------------------------------------------- the text of a rule

    private void ruleClauses() {
        holds("RULES 0 to 5: texts likewise,", () -> {
            ruleIs(" ".repeat(393) + "bar 1=1");
            ruleFault(" ".repeat(399) + "x", 399, 0);
            ruleFault(" ".repeat(400), 400, 0);
            WaterStair x = new WaterStair();
            for (int number = 0; number <= 5; number++) {
                tell(x, "bar 1=1");
                due("rule", x.rule(), number);
            }
            due("no rule 6", x.rule(), NONE);
        });
        holds("12 CLAUSES at most: bar TEST.", () -> {
            ruleIs("bar 1=1" + ";bar 1=1".repeat(11));
            ruleFault("bar 1=1" + ";bar 1=1".repeat(12), 96, 4);
            ruleFault("bar 1=1;;bar 1=1", 8, 0);
            bars(ONE, "0=1" + ";bar 0=1".repeat(10) + ";bar 1=1", true);
            bars(ONE, "0=1" + ";bar 0=1".repeat(11), false);
        });
    }

    private void signs() {
        holds("SIGN one of < <= = >= >.", () -> {
            String[] signs = {"<", "<=", "=", ">=", ">"};
            boolean[][] holds = {{true, false, false}, {true, true, false}, {false, true, false},
                {false, true, true}, {false, false, true}};
            for (int i = 0; i < signs.length; i++) {
                for (int left = 1; left <= 3; left++) {
                    bars(ONE, left + signs[i] + 2, holds[i][left - 1]);
                }
            }
            ruleFault("bar 1 < = 1", 8, 0);
            ruleFault("bar 1 > = 1", 8, 0);
            ruleFault("bar 1 => 1", 7, 0);
            ruleFault("bar 1 == 1", 7, 0);
            ruleFault("bar 1 <> 1", 7, 0);
            ruleFault("bar 1 ! 1", 6, 0);
        });
        holds("VALUE: NUMBER (1 to 5 digits, as far as digits go on)", () -> {
            ruleIs("bar 0=00000");
            bars(ONE, "99999 = 10000*10-1", true);
            bars(ONE, "00007 = 7", true);
            ruleFault("bar 100000=1", 4, 1);
            ruleFault("bar 000000=1", 4, 1);
            ruleFault("bar 1=" + "1".repeat(394), 6, 1);
            ruleFault("bar 1 1=1", 6, 0);
            ruleFault("bar :=1", 4, 0);
            ruleFault("bar /=1", 4, 0);
        });
        holds("Blanks (32) stand between as one likes.", () -> {
            ruleIs("bar1=1and[step<=1or not up>=1]");
            ruleIs("  bar  1  =  1  and  [  step  <=  1  or  not  up  >=  1  ]  ;  bar  1  =  1  ");
            counted("  lag1  ;level1 1;level  1  1  ;  barge1 0 0 0  ;broken0 ", 0, 2);
            ruleFault("bar\t1=1", 3, 0);
            ruleFault("bar 1=1\n", 7, 0);
            ruleFault("bar 1=1" + (char) 160, 7, 0);
            ruleFault("b ar 1=1", 0, 0);
            stairFault("level 1 1;level 1 1;barge 10 0 0", 32, 0);
        });
    }

    private void words() {
        holds("WORDS (small letters, as far as these go on)", () -> {
            ruleFault("bar needs=1", 4, 0);
            ruleFault("bar nee=1", 4, 0);
            ruleFault("bar stez=1", 4, 0);
            ruleFault("bar stepz=1", 4, 0);
            ruleFault("bar stepup=1", 4, 0);
            ruleFault("barstep=1", 0, 0);
            ruleFault("bar Step=1", 4, 0);
            ruleFault("bar step`=1", 8, 0);
            ruleFault("bar step{=1", 8, 0);
            stairFault("levels 1 1", 0, 0);
            stairFault("leve 1 1", 0, 0);
            stairFault("z 1 1", 0, 0);
            stairFault("a 1 1", 0, 0);
        });
        holds("down, up (WEIGHTS of the BARGE that goes down, up; 0 without),", () -> {
            WaterStair x = stair("level 99 8;level 0 8;barge 7 0 0 0;barge 8 0 1 0");
            force(x, "bar up=0 and down=7");
            due("down alone", x.may(0, 0, NONE), -7);
            due("both", x.may(0, 0, 1), 1);
            force(x, "bar down=0 and up=8");
            due("up alone", x.may(0, NONE, 1), -7);
            due("both", x.may(0, 0, 1), 1);
        });
        holds("wide (how many of both are WIDE),", () -> {
            WaterStair x = stair("level 99 8;level 0 8;barge 7 1 0 0;barge 7 1 1 0;barge 7 0 0 0;barge 7 0 1 0");
            force(x, "bar wide=2");
            due("both wide", x.may(0, 0, 1), -7);
            force(x, "bar wide=1");
            due("both wide", x.may(0, 0, 1), 0);
            due("one wide", x.may(0, 0, 3), -7);
            due("the other wide", x.may(0, 2, 1), -7);
            force(x, "bar wide=0");
            due("none wide", x.may(0, 2, 3), -7);
            due("none wide, one alone", x.may(0, 2, NONE), -7);
        });
        holds("need (the WATER it takes),", () -> {
            WaterStair x = stair("level 999 8;level 0 8;lag 20;barge 99 1 1 0;barge 20 0 0 0;barge 19 0 0 0");
            force(x, "bar need=0");
            due("none", x.may(0, 1, NONE), -7);
            due("1", x.may(0, 2, NONE), 1);
            force(x, "bar need=238");
            due("the most, twice as much", x.may(0, NONE, 0), -7);
            due("less", x.may(0, 2, 0), 200);
        });
        holds("water, below (WATER of both LEVELS),", () -> {
            WaterStair x = stair("level 0 8;level 999 8;barge 9 0 0 0;barge 1 0 1 0");
            force(x, "bar water=0 and below=999");
            due("none above", x.may(0, 0, NONE), -7);
            x.force(NONE);
            x.rain(0, 9999);
            x.rain(1, 9999);
            x.tip(0, NONE, 1);
            force(x, "bar water=9998 and below=10000");
            due("more than rain can bring", x.may(0, 0, NONE), -7);
            x = stair("level 9 8;level 4 8;barge 5 0 1 0");
            force(x, "bar water=9 and below=4");
            due("ahead of what it pours", x.may(0, NONE, 0), -7);
        });
        holds("here, there (BARGES at the upper, the lower LEVEL),", () -> {
            WaterStair x = stair("level 9 8;level 0 8;level 0 8" + ";barge 9 0 0 0".repeat(6));
            force(x, "bar here=6 and there=0");
            due("all and none", x.may(0, 0, NONE), -7);
            x.force(NONE);
            x.run(1);
            force(x, "bar here=5 and there=1");
            due("as it is ahead of it", x.may(0, 1, NONE), -7);
            force(x, "bar here=1 and there=0");
            due("at another step", x.may(1, 0, NONE), -7);
            due("not at this one", x.may(0, 1, NONE), 0);
            x = stair("level 9 8;level 9 8;barge 9 0 0 0;barge 9 0 0 0;barge 1 0 1 0");
            x.tip(0, 0, NONE);
            force(x, "bar here=1 and there=2");
            due("of either way, home or not", x.may(0, 1, 2), -7);
        });
        holds("tips (TIPS that were done, as they count).", () -> {
            WaterStair x = stair("level 9 8;level 0 8;barge 9 1 0 0;barge 9 0 0 0;barge 9 0 0 0");
            force(x, "bar tips=0");
            due("none was done", x.may(0, 0, NONE), -7);
            x.force(NONE);
            x.tip(0, 0, NONE);
            force(x, "bar tips=2");
            due("a wide one counts 2", x.may(0, 1, NONE), -7);
            x.force(NONE);
            x.tip(0, 1, NONE);
            force(x, "bar tips=3");
            due("and one more", x.may(0, 2, NONE), -7);
        });
    }

    private void reckoning() {
        holds("/ is towards 0,", () -> {
            bars(ONE, "7/2=3", true);
            bars(ONE, BELOW_0 + "<0", true);
            bars(ONE, BELOW_0 + "/2*2-" + BELOW_0 + "=1", true);
        });
        holds("0 by 0;", () -> {
            bars(ONE, "7/0=0", true);
            bars(ONE, "0/0=0", true);
            bars(ONE, "5+8/step/3*2=5", true);
            bars(ONE, BELOW_0 + "/up=0", true);
        });
        holds("all goes round in 64 bits.", () -> {
            String fourth = "7762*10000*10000*10000*1000+27969*10000*10000*100+14518*10000*10+41921";
            bars(ONE, "99999*99999*99999*99999=" + fourth, true);
            // 2 to the 62nd
            String half = "32768*32768*32768*32768*4";
            bars(ONE, half + "-1+" + half + ">0", true);
            bars(ONE, half + "+" + half + "<0", true);
            bars(ONE, "0-" + half + "-" + half + "<0", true);
            bars(ONE, "0-1-" + half + "-" + half + ">0", true);
            bars(ONE, half + "*4=0", true);
        });
    }

    private void depth() {
        holds("[ and not lie within one another 10 deep at most;", () -> {
            ruleIs("bar " + "[".repeat(10) + "1=1" + "]".repeat(10));
            ruleIs("bar " + "not ".repeat(10) + "1=1");
            ruleIs("bar " + "not[".repeat(5) + "1=1" + "]".repeat(5));
            ruleIs("bar " + "[not ".repeat(5) + "1=1" + "]".repeat(5) + "and " + "not ".repeat(10) + "1=1");
            ruleFault("bar " + "[".repeat(11) + "1=1" + "]".repeat(11), 14, 2);
            ruleFault("bar " + "not ".repeat(11) + "1=1", 44, 2);
            ruleIs("bar " + "[not ".repeat(5) + "1=1 or [1=1]" + "]".repeat(5));
            ruleFault("bar " + "not[".repeat(5) + "1=1 or [1=1]" + "]".repeat(5), 31, 2);
            ruleFault("bar " + "[".repeat(10) + "1=1 or not 1=1" + "]".repeat(10), 21, 2);
        });
        holds("at most 60 VALUES and FACTS made of a SIGN, together.", () -> {
            ruleIs("bar 1=1" + "and 1=1".repeat(19));
            ruleFault("bar 1=1" + "and 1=1".repeat(20), 144, 3);
            ruleIs("bar " + "1+".repeat(57) + "1=1");
            ruleIs("bar 1=" + "1+".repeat(57) + "1");
            ruleFault("bar 1=" + "1+".repeat(57) + "1+1", 122, 3);
            ruleFault("bar " + "1=1;bar ".repeat(10) + "1=1" + "and 1=1".repeat(10), 154, 3);
            // what opens or joins is not counted
            ruleIs("bar " + "not[".repeat(5) + "1=1" + "]".repeat(5) + "and 1=1".repeat(19));
            WaterStair x = new WaterStair();
            for (int number = 0; number < 3; number++) {
                tell(x, "bar 1=1" + "and 1=1".repeat(19));
                due("60 again", x.rule(), number);
            }
        });
    }

    // ---------------------------------------------------------------- faults

    private void faultPlaces() {
        holds("FAULTS, the first along the text,", () -> {
            stairFault("level 1000 9;lag 21;x", 6, 1);
            stairFault("level 1 9;lag 21;x", 8, 1);
            stairFault("level 1 8;lag 21;x", 14, 1);
            stairFault("level 1 8;lag 20;x", 17, 0);
            ruleFault("bar x=100000", 4, 0);
            ruleFault("bar 100000=x", 4, 1);
            ruleFault("bar 1=1;bar 1=;bar", 14, 0);
        });
        holds("1 + 8 * its place and:", () -> {
            stairFault("x", 0, 0);
            stairFault(" x", 1, 0);
            stairFault(" ".repeat(399) + "x", 399, 0);
            ruleFault("x", 0, 0);
            ruleFault(" x", 1, 0);
            ruleFault("bar 1=1 x", 8, 0);
        });
        holds("or the end (behind the last byte;", () -> {
            stairFault("", 0, 0);
            stairFault("  ", 2, 0);
            stairFault("level 1", 7, 0);
            stairFault("level 1 ", 8, 0);
            stairFault(PAIR, 20, 0);
            stairFault(PAIR + "  ", 22, 0);
            ruleFault("", 0, 0);
            ruleFault("bar", 3, 0);
            ruleFault("bar ", 4, 0);
            ruleFault("bar 1", 5, 0);
            ruleFault("bar 1<", 6, 0);
            ruleFault("bar [1=1 ", 9, 0);
            ruleFault("bar 1=1;", 8, 0);
        });
        holds("also with less than two LEVELS);", () -> {
            stairFault("lag 1", 5, 0);
            stairFault("level 1 1", 9, 0);
            stairFault("level 1 1;lag 1  ", 17, 0);
            counted("lag 1;level 1 1;level 1 1", 0, 2);
        });
        holds("Of one place the least.", () -> {
            String most = PAIR + "broken 0;".repeat(30);
            stairFault(most + "broke 0", most.length(), 0);
            stairFault(most, most.length(), 0);
            stairFault(most + "7", most.length(), 0);
            ruleFault("bar 1=1;".repeat(12) + "bat 1=1", 96, 0);
            ruleFault("bar 1=1;".repeat(12), 96, 0);
            ruleFault("bar " + "1+".repeat(60) + "111111=1", 124, 1);
            ruleFault("bar " + "1+".repeat(60) + "one=1", 124, 0);
            ruleFault("bar " + "1+".repeat(59) + "1", 123, 0);
        });
    }

    private void faultKinds() {
        holds("0 a byte or WORD that can't stand there,", () -> {
            stairFault((char) 255 + "level 1 1", 0, 0);
            stairFault((char) 0 + "level 1 1", 0, 0);
            stairFault("level -1 1", 6, 0);
            stairFault("level 1 level", 8, 0);
            stairFault("level 1 1 1", 10, 0);
            stairFault("bar 1=1", 0, 0);
            stairFault("1 1", 0, 0);
            ruleFault("level 1 1", 0, 0);
            ruleFault("bar and", 4, 0);
            ruleFault("bar 1=1 not 1=1", 8, 0);
            ruleFault("bar 1=1]", 7, 0);
            ruleFault("bar []", 5, 0);
            ruleFault("bar [1]=1", 6, 0);
            ruleFault("bar [1=1 1", 9, 0);
            ruleFault("bar [1=1;bar 1=1", 8, 0);
            ruleFault("bar 1+=1", 6, 0);
            ruleFault("bar 1=1=1", 7, 0);
            ruleFault("bar 1=1" + (char) 187, 7, 0);
        });
        holds("1 a NUMBER of more digits,", () -> {
            counted("level 00005 00001;level 5 1", 0, 2);
            stairFault("level 000005 1;level 5 1", 6, 1);
            stairFault("level 5 000001;level 5 1", 8, 1);
            stairFault("level 4294967301 1;level 5 1", 6, 1);
            ruleFault("bar 1=123456", 6, 1);
            ruleFault("bar 1=4294967297", 6, 1);
        });
        holds("or not as told (broken: 0 to LEVELS less 2);", () -> {
            due("broken 0 of two", stair(PAIR + "broken 0").level(0, 3), 0);
            stairFault(PAIR + "broken 1", 27, 1);
            due("broken 1 of three", stair(PAIR + "level 5 1;broken 1").level(1, 3), 0);
            stairFault(PAIR + "level 5 1;broken 2", 37, 1);
            stairFault(PAIR + "broken 99999", 27, 1);
        });
        holds("2 too deep (at the sign that opens, or the word not);", () -> {
            ruleFault("bar " + "[".repeat(10) + "  [ 1=1", 16, 2);
            ruleFault("bar " + "[".repeat(10) + "  not 1=1", 16, 2);
            ruleFault("bar " + "[".repeat(10) + "1=1 and [", 22, 2);
            ruleFault("bar " + "not ".repeat(10) + "not", 44, 2);
        });
        holds("3 one VALUE or FACT too many (at its first byte;", () -> {
            ruleFault("bar " + "1+".repeat(60) + "  12345=1", 126, 3);
            ruleFault("bar " + "1+".repeat(60) + " water=1", 125, 3);
            ruleFault("bar " + "1+".repeat(58) + "1= 12", 123, 3);
        });
        holds("of a FACT at its SIGN);", () -> {
            ruleFault("bar " + "1+".repeat(59) + "1 <= 1", 124, 3);
            ruleFault("bar " + "1+".repeat(59) + "1=1", 123, 3);
            ruleFault("bar 1=1" + "and 1=1".repeat(18) + "and 1+1+1=1", 142, 3);
        });
    }

    private void faultsOfOrder() {
        String most = PAIR + "broken 0;".repeat(30);
        holds("4 one CLAUSE too many,", () -> {
            stairFault(most + "  broken 0", most.length() + 2, 4);
            stairFault(most + "lag 1", most.length(), 4);
            stairFault(most + "barge 1 0 0 0", most.length(), 4);
            ruleFault("bar 1=1;".repeat(12) + "  bar 1=1", 98, 4);
            ruleFault("bar 1=1;".repeat(12) + "bar x", 96, 4);
        });
        holds("a ninth LEVEL,", () -> {
            stairFault("level 5 1;".repeat(8) + " level 5 1", 81, 4);
            stairFault("level 5 1;".repeat(8) + "level x", 80, 4);
        });
        holds("a LEVEL behind a barge or broken one,", () -> {
            stairFault(PAIR + "barge 1 0 0 0; level 5 1", 35, 4);
            stairFault(PAIR + "broken 0; level 5 1", 30, 4);
            counted("level 5 1;lag 1;level 5 1;level 5 1", 0, 3);
        });
        holds("one of these ahead of the second LEVEL,", () -> {
            stairFault("barge 1 0 0 0", 0, 4);
            stairFault(" broken 0", 1, 4);
            stairFault("level 5 1;barge 1 0 0 0;level 5 1", 10, 4);
            stairFault("level 5 1;broken 0;level 5 1", 10, 4);
            counted(PAIR + "barge 1 0 0 0", 1, 1);
        });
        holds("a second lag,", () -> stairFault("lag 1; lag 2", 7, 4));
        holds("a seventh BARGE (at its first byte).", () -> {
            counted(PAIR + "barge 1 0 0 0;".repeat(5) + "barge 1 0 0 0", 1, 6);
            stairFault(PAIR + "barge 1 0 0 0;".repeat(6) + " barge 1 0 0 0", 105, 4);
        });
    }
}
