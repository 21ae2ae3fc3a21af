/** The boundary cases that promises 1 to 15 name, and the terms that they use: the tape, tips, rain, chains, runs. */
public final class TipBoundaryTest extends Sentences {
    // both lakes of one seat, one seat in between, the lower chain broken
    private static final String NARROW =
            "level 7 1;level 0 1;level 5 1;broken 1;barge 9 0 0 0;barge 8 0 0 0;barge 8 0 1 0";

    public static void main(String[] args) throws Exception {
        new TipBoundaryTest().report();
    }

    @Override
    void prove() {
        heading("Promise 1");
        newObject();
        heading("Promise 2");
        feed();
        heading("Promise 3");
        end();
        heading("Promise 4");
        stairInPlace();
        stairFaulty();
        heading("Promise 5");
        rule();
        heading("Promise 6");
        force();
        heading("Promise 7");
        level();
        heading("Promise 8");
        barge();
        heading("Terms");
        need();
        laws();
        lawsOfBarges();
        heading("Promise 9");
        tip();
        heading("Promise 10");
        may();
        heading("Promise 11");
        rain();
        heading("Promise 12");
        chain();
        heading("Terms");
        runs();
        stuck();
        heading("Promise 13");
        run();
        heading("Promise 14");
        would();
        heading("Promise 15");
        can();
    }

    // ---------------------------------------------------------------- 1 to 3

    private void newObject() {
        holds("No STAIR,", () -> {
            WaterStair x = new WaterStair();
            int[] nothing = {0, 1, 2, 3, 4, 5, 8, 9, 10, 11, 12};
            for (int what : nothing) {
                due("count(" + what + ")", x.count(what), 0);
            }
            due("level", x.level(0, 0), NONE);
            due("barge", x.barge(0, 0), NONE);
            due("tip", x.tip(0, 0, NONE), NONE);
            due("may", x.may(0, 0, NONE), NONE);
            due("rain", x.rain(0, 0), NONE);
            due("chain", x.chain(0, false), false);
            due("chain", x.chain(0, true), false);
            due("pass", x.pass(0), NONE);
            due("seen", x.seen(0, 0), false);
            due("book", x.book(0, 0, NONE), -2);
        });
        holds("no RULES,", () -> {
            WaterStair x = new WaterStair();
            due("rules", x.count(6), 0);
            due("force(0)", x.force(0), -2);
            tell(x, "bar 1=1");
            due("the first", x.rule(), 0);
        });
        holds("none IN FORCE.", () -> {
            WaterStair x = new WaterStair();
            due("in force", x.count(7), NONE);
            due("which was", x.force(NONE), NONE);
        });
    }

    private void feed() {
        holds("Twenty bytes come behind the TAPE,", () -> {
            WaterStair x = new WaterStair();
            // "level 1 1;level 2 2;", cut to "level 1 1;", and then "level 3 3;level 4 4 "
            due("of an empty one", x.feed(0x6c657665, 0x6c203120, 0x313b6c65, 0x76656c20, 0x3220323b), 20);
            due("end", x.end(10), 10);
            due("behind 10", x.feed(0x6c657665, 0x6c203320, 0x333b6c65, 0x76656c20, 0x34203420), 30);
            due("stair", x.stair(), 3);
            due("the last bytes", x.level(2, 1), 4);
            for (int i = 1; i <= 20; i++) {
                due("feed " + i, x.feed(0, 0, 0, 0, 0), 20 * i);
                due("bytes", x.count(12), 20 * i);
            }
        });
        holds("of each number the highest first:", () -> {
            int[] fives = {0xa0202020, 0x20a02020, 0x2020a020, 0x202020a0, 0x20202020};
            int[] wrongPlaces = {0, 1, 2, 3, 20};
            for (int i = 0; i < fives.length; i++) {
                WaterStair x = new WaterStair();
                x.feed(fives[i], 0x20202020, 0x20202020, 0x20202020, 0x20202020);
                due("the first number", x.rule(), fault(wrongPlaces[i], 0));
                x.feed(0x20202020, 0x20202020, 0x20202020, 0x20202020, fives[i]);
                due("the last number", x.rule(), fault(i == 4 ? 20 : 16 + wrongPlaces[i], 0));
            }
            WaterStair x = new WaterStair();
            x.feed(-1, 0x20202020, 0x20202020, 0x20202020, 0x20202020);
            due("bytes of 255", x.stair(), fault(0, 0));
        });
        holds("NONE, and none comes, if it would have more than 400.", () -> {
            WaterStair x = new WaterStair();
            tell(x, "level 1 1;level 2 2" + " ".repeat(381));
            due("20 behind 400", x.feed(1, 2, 3, 4, 5), NONE);
            due("bytes", x.count(12), 400);
            x.end(381);
            due("20 behind 381", x.feed(1, 2, 3, 4, 5), NONE);
            due("bytes", x.count(12), 381);
            due("none came", x.stair(), 2);
            tell(x, " ".repeat(380));
            due("20 behind 380", x.feed(0, 0, 0, 0, 0), 400);
        });
    }

    private void end() {
        holds("The TAPE has its first n bytes alone: n;", () -> {
            WaterStair x = new WaterStair();
            due("0 of none", x.end(0), 0);
            tell(x, "level 1 1;level 2 2;level 3 3");
            due("all", x.end(29), 29);
            due("some", x.end(19), 19);
            due("bytes", x.count(12), 19);
            due("the others are gone", x.end(20), NONE);
            due("its first", x.stair(), 2);
            tell(x, "level 1 1;level 2 2");
            due("none", x.end(0), 0);
            due("an empty one", x.stair(), fault(0, 0));
        });
        holds("NONE, and nothing happens, if it has not so many,", () -> {
            WaterStair x = new WaterStair();
            due("1 of none", x.end(1), NONE);
            x.feed(0, 0, 0, 0, 0);
            due("21 of 20", x.end(21), NONE);
            due("far", x.end(FAR), NONE);
            due("bytes", x.count(12), 20);
        });
        holds("or n is below 0.", () -> {
            WaterStair x = new WaterStair();
            x.feed(0, 0, 0, 0, 0);
            due("-1", x.end(-1), NONE);
            due("deep", x.end(DEEP), NONE);
            due("bytes", x.count(12), 20);
        });
    }

    // ---------------------------------------------------------------- 4 to 6

    private void stairInPlace() {
        holds("The TAPE, which is empty then,", () -> {
            WaterStair x = stair(TWO);
            due("bytes", x.count(12), 0);
            tell(x, "level 1 1");
            due("a fault", x.stair(), fault(9, 0));
            due("bytes behind a fault", x.count(12), 0);
            due("feed", x.feed(0, 0, 0, 0, 0), 20);
        });
        holds("is the STAIR in place of the one there was", () -> {
            WaterStair x = stair("level 9 1" + ";level 9 1".repeat(7) + ";lag 20;broken 0" + ";barge 9 0 0 0".repeat(6));
            tell(x, "level 1 2;level 3 4");
            due("stair", x.stair(), 2);
            due("levels", x.count(0), 2);
            due("barges", x.count(1), 0);
            due("lag", x.count(8), 0);
            due("water", x.count(4), 4);
            due("chain", x.level(0, 3), 1);
            due("level 2", x.level(2, 0), NONE);
            due("barge 0", x.barge(0, 0), NONE);
            due("barges at level 0", x.level(0, 2), 0);
            due("plan", x.plan(0, false), 0);
        });
        holds("(no TIPS done,", () -> {
            WaterStair x = stair(THREE);
            x.run(200);
            x.would(0, 0);
            tell(x, TWO);
            x.stair();
            due("tips", x.count(3), 0);
            due("water poured", x.count(5), 0);
            due("home", x.count(2), 0);
            force(x, "bar tips=0");
            due("tips of a rule", x.may(0, 0, NONE), -7);
        });
        holds("nothing SEEN,", () -> {
            WaterStair x = stair(TWO);
            x.seen(0, 0);
            x.seen(1, 9999);
            tell(x, TWO);
            x.stair();
            due("levels seen", x.count(10), 0);
            due("all rows", x.went(1, 0), 3);
        });
        holds("an empty BOOK;", () -> {
            WaterStair x = stair(TWO);
            for (int i = 0; i < 10; i++) {
                x.book(0, NONE, 1);
            }
            tell(x, TWO);
            x.stair();
            due("tips in the book", x.count(9), 0);
            due("one more", x.book(0, NONE, 1), 1);
        });
        holds("the RULE IN FORCE and x stay):", () -> {
            WaterStair x = new WaterStair();
            x.seed(FAR);
            tell(x, "bar 0=1");
            x.rule();
            force(x, "bar 1=1");
            tell(x, TWO);
            due("stair", x.stair(), 2);
            due("x", x.count(11), FAR);
            due("in force", x.count(7), 1);
            due("barred", x.may(0, 0, NONE), -7);
        });
    }

    private void stairFaulty() {
        holds("how many LEVELS;", () -> {
            WaterStair x = new WaterStair();
            for (int levels = 2; levels <= 8; levels++) {
                tell(x, "level 1 1" + ";level 1 1".repeat(levels - 1));
                due("stair", x.stair(), levels);
            }
        });
        holds("-2 - its FAULT, and all stays.", () -> {
            WaterStair x = stair(THREE + ";broken 0");
            force(x, "bar 0=1");
            x.tip(1, NONE, 1);
            x.seen(0, 12);
            x.book(0, NONE, 1);
            x.seed(5);
            String before = all(x);
            tell(x, "level 1 1;level 2 2;lag 9;barge 1 1 1 1;broken 0;x");
            due("a fault at the very end", x.stair(), fault(49, 0));
            stays(x, before);
            due("an empty text", x.stair(), fault(0, 0));
            stays(x, before);
            // 20 - (6 + 2) is 12: what was seen is so with the weight that was told, and with none above it
            due("what was seen", x.smuggled(0), 40);
            WaterStair none = new WaterStair();
            due("an empty text", none.stair(), -3);
            due("no stair still", none.count(0), 0);
            due("none is asked for", none.can(), NONE);
        });
    }

    private void rule() {
        holds("The TAPE, which is empty then,", () -> {
            WaterStair x = new WaterStair();
            tell(x, "bar 1=1");
            x.rule();
            due("bytes", x.count(12), 0);
            tell(x, "bar 1=1;");
            due("a fault", x.rule(), fault(8, 0));
            due("bytes behind a fault", x.count(12), 0);
        });
        holds("is a RULE: its number;", () -> {
            WaterStair x = stair(TWO);
            for (int number = 0; number <= 5; number++) {
                tell(x, "bar " + number + "=5");
                due("rule", x.rule(), number);
                due("rules", x.count(6), number + 1);
            }
            x.force(5);
            due("the last", x.may(0, 0, NONE), -7);
            x.force(0);
            due("the first", x.may(0, 0, NONE), 0);
        });
        holds("-2 - its FAULT;", () -> {
            WaterStair x = new WaterStair();
            due("an empty text", x.rule(), -3);
            tell(x, "bar 1=1 and 1=1 and");
            due("a fault at the end", x.rule(), fault(19, 0));
            due("rules", x.count(6), 0);
            tell(x, "bar 1=1");
            due("it takes no number", x.rule(), 0);
        });
        holds("NONE, and nothing happens: there are 6.", () -> {
            WaterStair x = new WaterStair();
            for (int number = 0; number <= 5; number++) {
                force(x, "bar 1=1");
            }
            tell(x, "bar 1=1");
            due("a seventh", x.rule(), NONE);
            due("bytes", x.count(12), 7);
            due("rules", x.count(6), 6);
            due("in force", x.count(7), 5);
            tell(x, "x");
            due("a seventh with a fault", x.rule(), NONE);
            due("bytes", x.count(12), 1);
            x.end(0);
            due("an empty one", x.rule(), NONE);
        });
    }

    private void force() {
        holds("A RULE is IN FORCE (NONE: none): which was;", () -> {
            WaterStair x = stair(TWO);
            tell(x, "bar 1=1");
            x.rule();
            tell(x, "bar 0=1");
            x.rule();
            due("none was", x.force(0), NONE);
            due("barred", x.may(0, 0, NONE), -7);
            due("it was already", x.force(0), 0);
            due("0 was", x.force(1), 0);
            due("not barred", x.may(0, 0, NONE), 0);
            due("1 was", x.force(0), 1);
            due("0 was", x.force(NONE), 0);
            due("none", x.count(7), NONE);
            due("not barred", x.may(0, 0, NONE), 0);
            due("none was", x.force(NONE), NONE);
        });
        holds("-2, and nothing happens, if there is none such.", () -> {
            WaterStair x = stair(TWO);
            due("no rule", x.force(0), -2);
            force(x, "bar 1=1");
            due("rule 1 of 1", x.force(1), -2);
            due("rule 5 of 1", x.force(5), -2);
            due("-2", x.force(-2), -2);
            due("far", x.force(FAR), -2);
            due("deep", x.force(DEEP), -2);
            due("in force", x.count(7), 0);
            due("barred", x.may(0, 0, NONE), -7);
            for (int number = 1; number <= 5; number++) {
                force(x, "bar 0=1");
            }
            due("rule 6", x.force(6), -2);
            due("in force", x.count(7), 5);
        });
    }

    // ---------------------------------------------------------------- 7 and 8

    private void level() {
        holds("2: BARGES there, as bits,", () -> {
            WaterStair x = stair("level 9 8;level 9 8;level 9 8" + ";barge 9 0 0 0".repeat(6));
            due("all", x.level(0, 2), 63);
            due("none", x.level(1, 2), 0);
            x.tip(0, 5, NONE);
            due("all but the last", x.level(0, 2), 31);
            due("the last", x.level(1, 2), 32);
        });
        holds("3: 1 if the CHAIN of the STEP of that number is whole, else 0", () -> {
            WaterStair x = stair("level 9 8;level 9 8;level 9 8;broken 1");
            due("whole", x.level(0, 3), 1);
            due("broken", x.level(1, 3), 0);
        });
        holds("(NONE at the last LEVEL).", () -> {
            due("of two", stair("level 9 8;level 9 8").level(1, 3), NONE);
            due("of eight", stair("level 9 8" + ";level 9 8".repeat(7)).level(7, 3), NONE);
            WaterStair x = stair("level 9 8;level 9 8;level 9 8");
            tell(x, "level 9 8;level 9 8");
            x.stair();
            due("of two behind three", x.level(1, 3), NONE);
        });
        holds("NONE without these.", () -> {
            WaterStair x = stair("level 9 8;level 9 8");
            for (int what = 0; what <= 3; what++) {
                due("level -1", x.level(-1, what), NONE);
                due("level 2", x.level(2, what), NONE);
                due("far", x.level(FAR, what), NONE);
                due("deep", x.level(DEEP, what), NONE);
                due("no stair", new WaterStair().level(0, what), NONE);
            }
            due("what -1", x.level(0, -1), NONE);
            due("what 4", x.level(0, 4), NONE);
            due("what far", x.level(0, FAR), NONE);
            due("level 8 of 8", stair("level 9 8" + ";level 9 8".repeat(7)).level(8, 0), NONE);
        });
    }

    private void barge() {
        holds("5: 1 if it is HOME, else 0.", () -> {
            WaterStair x = stair("level 9 8;level 9 8;level 9 8;barge 9 0 0 0;barge 9 0 1 0");
            due("0 at its begin", x.barge(0, 5), 0);
            due("1 at its begin", x.barge(1, 5), 0);
            x.tip(0, 0, NONE);
            due("0 in between", x.barge(0, 5), 0);
            x.tip(1, 0, 1);
            due("0 is home", x.barge(0, 5), 1);
            due("1 in between", x.barge(1, 5), 0);
            x.tip(0, NONE, 1);
            due("1 is home", x.barge(1, 5), 1);
        });
        holds("NONE without these.", () -> {
            WaterStair x = stair(TWO);
            for (int what = 0; what <= 5; what++) {
                due("barge -1", x.barge(-1, what), NONE);
                due("barge 2", x.barge(2, what), NONE);
                due("far", x.barge(FAR, what), NONE);
                due("deep", x.barge(DEEP, what), NONE);
                due("no barges", stair("level 9 8;level 9 8").barge(0, what), NONE);
                due("no stair", new WaterStair().barge(0, what), NONE);
            }
            due("what -1", x.barge(0, -1), NONE);
            due("what 6", x.barge(0, 6), NONE);
            due("what far", x.barge(0, FAR), NONE);
            due("barge 6 of 6", stair("level 9 8;level 9 8" + ";barge 9 0 0 0".repeat(6)).barge(6, 0), NONE);
        });
    }

    // ---------------------------------------------------------------- tips

    private void need() {
        holds("less that of the one that goes down (0 at least);", () -> {
            WaterStair x = stair("level 9 1;level 4 1;lag 2;barge 7 0 0 0;barge 5 0 1 0;barge 6 0 1 0;barge 4 0 1 0");
            due("just as heavy", x.may(0, 0, 1), 0);
            due("lighter by 1", x.may(0, 0, 2), 1);
            due("heavier by 1", x.may(0, 0, 3), 0);
            due("alone", x.tip(0, 0, NONE), 0);
            due("no water comes up", x.level(0, 0), 9);
            due("none is poured", x.count(5), 0);
            x = stair("level 9 1;level 4 1;barge 1 0 0 0");
            due("the lightest, without a lag", x.tip(0, 0, NONE), 0);
            x = stair("level 999 1;level 4 1;lag 20;barge 99 1 1 0;barge 1 0 0 0");
            due("the most that can be", x.may(0, NONE, 0), 238);
            due("all but 1", x.may(0, 1, 0), 236);
        });
        holds("twice as much if one of them is WIDE", () -> {
            WaterStair x = stair("level 99 1;level 4 1;barge 3 1 0 0;barge 3 0 0 0;barge 8 1 1 0;barge 8 0 1 0");
            due("neither", x.may(0, 1, 3), 5);
            due("the one that goes down", x.may(0, 0, 3), 10);
            due("the one lifted", x.may(0, 1, 2), 10);
            due("alone", x.may(0, NONE, 2), 16);
            due("alone, not wide", x.may(0, NONE, 3), 8);
        });
        holds("(also if both are).", () -> {
            WaterStair x = stair("level 99 1;level 4 1;barge 3 1 0 0;barge 8 1 1 0");
            due("both", x.tip(0, 0, 1), 10);
            due("water", x.level(0, 0), 89);
            due("below", x.level(1, 0), 14);
        });
        holds("A TIP counts as 1, or 2 if one is WIDE.", () -> {
            WaterStair x = stair("level 99 8;level 4 8;barge 8 1 0 0;barge 8 1 1 0;barge 8 0 0 0;barge 8 0 1 0;barge 8 1 0 0");
            x.tip(0, 2, 3);
            due("neither", x.count(3), 1);
            x.tip(0, 0, 1);
            due("both: 2 and no more", x.count(3), 3);
            x.tip(0, 4, NONE);
            due("one alone", x.count(3), 5);
        });
    }

    private void laws() {
        holds("LAWS of a TIP, the first that is broken:", () -> {
            WaterStair x = stair(NARROW);
            due("1 ahead of 2", x.may(1, 0, NONE), -3);
            x.tip(0, 0, NONE);
            due("1 ahead of 3", x.may(1, NONE, 2), -3);
            due("2 ahead of 3", x.may(0, 1, 2), -4);
            x.chain(1, true);
            due("3 ahead of 4", x.may(1, NONE, 2), -5);
            force(x, "bar 1=1");
            due("3 ahead of 5", x.may(0, 1, NONE), -5);
            due("1 to 4 are kept", x.may(1, 0, 2), -7);
            x.force(NONE);
            x.tip(1, 0, 2);
            x.force(0);
            due("4 ahead of 5", x.may(0, NONE, 2), -6);
        });
        holds("1 the CHAIN is whole;", () -> {
            WaterStair x = stair("level 9 1;level 9 1;level 9 1;broken 1;barge 9 0 0 0");
            due("the other chain", x.tip(0, 0, NONE), 0);
            due("broken", x.tip(1, 0, NONE), -3);
            x.chain(1, true);
            due("mended", x.tip(1, 0, NONE), 0);
        });
        holds("4 the WATER of the upper LEVEL is NEED at least;", () -> {
            WaterStair x = stair("level 8 1;level 4 1;barge 8 0 1 0;barge 9 0 1 0;barge 9 0 0 0");
            due("1 too little", x.may(0, NONE, 1), -6);
            due("just enough", x.tip(0, NONE, 0), 8);
            due("none is left", x.level(0, 0), 0);
            due("none is needed", x.may(0, 2, 1), 0);
            x.rain(0, 8);
            due("1 too little", x.may(0, NONE, 1), -6);
            x.rain(0, 1);
            due("just enough", x.may(0, NONE, 1), 9);
        });
        holds("5 no bar TEST of the RULE holds (if a RULE is IN FORCE).", () -> {
            WaterStair x = stair(TWO);
            tell(x, "bar 0=1;bar 0=1;bar step=0");
            x.rule();
            due("told, not in force", x.may(0, 0, NONE), 0);
            x.force(0);
            due("the last test holds", x.may(0, 0, NONE), -7);
            force(x, "bar step=0;bar 0=1");
            due("the first test holds", x.may(0, 0, NONE), -7);
            force(x, "bar 0=1;bar 0=1");
            due("none holds", x.may(0, 0, NONE), 0);
        });
    }

    private void lawsOfBarges() {
        holds("(not both NONE;", () -> {
            WaterStair x = stair(TWO);
            due("both none", x.may(0, NONE, NONE), NONE);
            due("can", x.can(), 3);
        });
        holds("each only by its own WAY).", () -> {
            WaterStair x = stair("level 9 1;level 9 8;level 9 1;barge 5 0 0 0;barge 5 0 1 0");
            due("up from level 0", x.may(0, 1, NONE), -4);
            x.tip(0, 0, NONE);
            due("back up", x.may(0, NONE, 0), -4);
            x.tip(1, NONE, 1);
            due("back down", x.may(1, 1, NONE), -4);
            due("the same both ways", x.may(1, 0, 0), -4);
            due("by their ways", x.may(1, 0, NONE) + x.may(0, NONE, 1), 5);
        });
        holds("2 the BARGES are there, and go that way;", () -> {
            WaterStair x = stair("level 9 1;level 9 8;level 9 1;barge 5 0 0 0;barge 5 0 1 0;barge 5 0 0 0");
            due("not yet there", x.may(1, 0, NONE), -4);
            due("not yet there", x.may(0, NONE, 1), -4);
            due("one of both", x.may(0, 0, 1), -4);
            due("the other of both", x.may(1, 0, 1), -4);
            x.tip(0, 0, NONE);
            due("gone from there", x.may(0, 0, NONE), -4);
            due("there now", x.may(1, 0, 1), 0);
            x.tip(1, 0, 1);
            due("home goes no further", x.may(1, 0, NONE), -4);
        });
        holds("3 SEATS: behind it there are not more BARGES than SEATS at either LEVEL", () -> {
            WaterStair x = stair("level 99 1;level 99 2;level 99 1;barge 5 0 0 0;barge 5 0 0 0;barge 5 0 0 0;barge 5 0 1 0");
            due("one", x.tip(0, 0, NONE), 0);
            due("as many as seats", x.tip(0, 1, NONE), 0);
            due("one more from above", x.tip(0, 2, NONE), -5);
            due("one more from below", x.tip(1, NONE, 3), -5);
            due("one for another", x.tip(1, 0, 3), 0);
            due("one for another at the upper step", x.tip(0, 2, 3), 0);
            x = stair("level 9 1;level 9 1;level 9 1;level 9 1;barge 5 0 0 0;barge 5 0 0 0");
            x.tip(0, 0, NONE);
            x.tip(1, 0, NONE);
            x.tip(0, 1, NONE);
            due("between two that are full", x.tip(1, 1, NONE), -5);
        });
        holds("(lakes are not asked);", () -> {
            WaterStair x = stair("level 99 1;level 9 1;level 9 1" + ";barge 5 0 0 0".repeat(3) + ";barge 5 0 1 0".repeat(3));
            due("a full upper lake", x.tip(0, 0, NONE), 0);
            due("a full lower lake", x.tip(1, 0, 3), 0);
            due("to the full upper lake", x.tip(0, NONE, 3), 5);
            due("five at the lakes", x.level(0, 2) + x.level(2, 2), 63);
        });
    }

    private void tip() {
        holds("A TIP: how much WATER it took;", () -> {
            WaterStair x = stair("level 9 1;level 4 1;barge 5 0 0 0;barge 5 0 1 0;barge 3 0 1 0");
            due("none", x.tip(0, 0, 1), 0);
            due("it is done all the same", x.count(3), 1);
            due("3", x.tip(0, NONE, 2), 3);
            due("water", x.level(0, 0), 6);
            due("below", x.level(1, 0), 7);
            due("poured", x.count(5), 3);
        });
        holds("below 0, and nothing happens:", () -> {
            WaterStair x = stair(NARROW);
            x.tip(0, 0, NONE);
            x.force(NONE);
            String before = all(x);
            x.tip(1, 0, 2);
            stays(x, before);
            x.tip(0, 0, 2);
            stays(x, before);
            x.tip(0, 1, NONE);
            stays(x, before);
            x.tip(5, 0, NONE);
            x.tip(0, 5, NONE);
            x.tip(0, NONE, NONE);
            stays(x, before);
            x = stair(NARROW);
            x.chain(1, true);
            force(x, "bar 1=1");
            before = all(x);
            due("law 4", x.tip(1, NONE, 2), -6);
            due("law 5", x.tip(0, 0, NONE), -7);
            stays(x, before);
        });
        holds("-2 less the number of the LAW that is broken;", () -> {
            WaterStair x = stair(NARROW);
            due("1", x.tip(1, 0, NONE), -3);
            due("2", x.tip(0, NONE, 2), -4);
            x.tip(0, 0, NONE);
            due("3", x.tip(0, 1, NONE), -5);
            x = stair("level 9 1;level 9 1;barge 10 0 1 0;barge 9 0 1 0");
            due("4", x.tip(0, NONE, 0), -6);
            force(x, "bar 1=1");
            due("5", x.tip(0, NONE, 1), -7);
        });
        holds("NONE without that STEP,", () -> {
            WaterStair x = stair(TWO);
            due("-1", x.tip(-1, 0, NONE), NONE);
            due("1 of two levels", x.tip(1, 0, NONE), NONE);
            due("far", x.tip(FAR, 0, NONE), NONE);
            due("deep", x.tip(DEEP, 0, NONE), NONE);
            due("7 of eight levels", stair("level 9 8" + ";level 9 8".repeat(7) + ";barge 9 0 0 0").tip(7, 0, NONE), NONE);
            due("no stair", new WaterStair().tip(0, 0, NONE), NONE);
        });
        holds("or BARGES (NONE: none),", () -> {
            WaterStair x = stair(TWO + ";broken 0");
            due("down 2 of 2", x.tip(0, 2, NONE), NONE);
            due("up 2 of 2", x.tip(0, NONE, 2), NONE);
            due("down -2", x.tip(0, -2, 1), NONE);
            due("up -2", x.tip(0, 0, -2), NONE);
            due("down far", x.tip(0, FAR, 1), NONE);
            due("up deep", x.tip(0, 0, DEEP), NONE);
            due("ahead of law 1", x.tip(0, 0, 6), NONE);
            due("down none", x.tip(0, NONE, 1), -3);
            due("up none", x.tip(0, 0, NONE), -3);
        });
        holds("or if both are NONE.", () -> {
            due("both", stair(TWO).tip(0, NONE, NONE), NONE);
            due("ahead of law 1", stair(TWO + ";broken 0").tip(0, NONE, NONE), NONE);
        });
    }

    private void may() {
        holds("As tip, but nothing happens.", () -> {
            WaterStair x = stair(NARROW);
            String before = all(x);
            due("none is taken", x.may(0, 0, NONE), 0);
            due("again", x.may(0, 0, NONE), 0);
            due("1", x.may(1, 0, NONE), -3);
            due("2", x.may(0, NONE, 2), -4);
            due("no step", x.may(2, 0, NONE), NONE);
            due("no step", x.may(-1, 0, NONE), NONE);
            due("no barge", x.may(0, 3, NONE), NONE);
            due("no barge", x.may(0, 0, -2), NONE);
            due("both none", x.may(0, NONE, NONE), NONE);
            stays(x, before);
            x.tip(0, 0, NONE);
            due("3", x.may(0, 1, NONE), -5);
            x = stair("level 9 1;level 9 1;barge 10 0 1 0;barge 9 0 1 0");
            due("4", x.may(0, NONE, 0), -6);
            due("all of it", x.may(0, NONE, 1), 9);
            force(x, "bar 1=1");
            due("5", x.may(0, NONE, 1), -7);
            due("no stair", new WaterStair().may(0, 0, NONE), NONE);
        });
    }

    // ---------------------------------------------------------------- rain and chains

    private void rain() {
        holds("RAIN (tons 0 to 9999):", () -> {
            WaterStair x = stair("level 0 1;level 0 1;level 5 1");
            due("0", x.rain(0, 0), 0);
            due("9999", x.rain(1, 9999), 9999);
            due("0 of 5", x.rain(2, 0), 5);
        });
        holds("the WATER there is then;", () -> {
            WaterStair x = stair("level 0 1;level 999 1");
            due("1", x.rain(0, 1), 1);
            due("1 more", x.rain(0, 1), 2);
            due("all there can be", x.rain(0, 9998), 9999);
            due("water 0", x.level(0, 0), 9999);
            due("the others have none of it", x.level(1, 0), 999);
        });
        holds("NONE, and nothing happens, without these.", () -> {
            WaterStair x = stair(TWO);
            String before = all(x);
            due("tons -1", x.rain(0, -1), NONE);
            due("tons 10000", x.rain(0, 10000), NONE);
            due("tons far", x.rain(0, FAR), NONE);
            due("tons deep", x.rain(0, DEEP), NONE);
            due("level -1", x.rain(-1, 1), NONE);
            due("level 2", x.rain(2, 1), NONE);
            due("level far", x.rain(FAR, 1), NONE);
            stays(x, before);
            due("no stair", new WaterStair().rain(0, 0), NONE);
        });
        heading("Terms");
        holds("RAIN: a LEVEL has so much more WATER (till it has 9999;", () -> {
            WaterStair x = stair("level 9 1;level 999 1");
            due("1 less", x.rain(0, 9989), 9998);
            due("just so much", x.rain(0, 1), 9999);
            due("1 too much", x.rain(0, 1), 9999);
            due("far too much", x.rain(1, 9999), 9999);
        });
        holds("if it has more already, none comes).", () -> {
            WaterStair x = stair("level 999 1;level 9 1;barge 1 0 1 0;barge 9 0 1 0");
            x.rain(1, 9999);
            due("9999", x.level(1, 0), 9999);
            x.tip(0, NONE, 0);
            due("10000", x.rain(1, 0), 10000);
            due("none comes", x.rain(1, 1), 10000);
            x.tip(0, NONE, 1);
            due("none comes", x.rain(1, 9999), 10009);
            due("nor goes", x.level(1, 0), 10009);
        });
    }

    private void chain() {
        holds("A CHAIN breaks, or is mended: true;", () -> {
            WaterStair x = stair("level 9 1" + ";level 9 1".repeat(7) + ";broken 6");
            due("the last is mended", x.chain(6, true), true);
            due("whole", x.level(6, 3), 1);
            due("the first breaks", x.chain(0, false), true);
            due("broken", x.level(0, 3), 0);
            due("the others stay", x.level(1, 3), 1);
        });
        holds("false, and nothing happens: it is so,", () -> {
            WaterStair x = stair("level 9 1;level 9 1;level 9 1;broken 1");
            String before = all(x);
            due("whole", x.chain(0, true), false);
            due("broken", x.chain(1, false), false);
            stays(x, before);
        });
        holds("or there is none.", () -> {
            WaterStair x = stair("level 9 1;level 9 1");
            for (int step : new int[] {-1, 1, 7, 8, FAR, DEEP}) {
                due("break " + step, x.chain(step, false), false);
                due("mend " + step, x.chain(step, true), false);
            }
            due("chain 0", x.level(0, 3), 1);
            due("no stair", new WaterStair().chain(0, false), false);
            due("no stair", new WaterStair().chain(0, true), false);
        });
    }

    // ---------------------------------------------------------------- runs

    private void runs() {
        holds("A RUN of n TIPS (0 to 200):", () -> {
            WaterStair x = stair(THREE);
            due("0", x.run(0), 0);
            due("nothing was done", x.count(3), 0);
            due("1", x.run(1), 1);
            due("200", x.run(200), 4);
            due("201", x.run(201), NONE);
            due("-1", x.run(-1), NONE);
        });
        holds("NONE behind all; then by the one lifted, likewise),", () -> {
            WaterStair x = stair("level 99 1;level 9 1;barge 5 0 1 0;barge 5 0 0 0;barge 5 0 0 0;barge 5 0 1 0;barge 5 0 1 0");
            x.run(1);
            due("1 and 0 first", x.level(0, 2), 1 + 4);
            x.run(1);
            due("2 and 3 then", x.level(0, 2), 1 + 8);
            x.run(1);
            due("none and 4 at last", x.level(0, 2), 1 + 8 + 16);
            x = stair("level 99 1;level 9 1;level 9 1;barge 5 0 1 0;barge 5 0 0 0");
            x.run(1);
            due("by steps", x.barge(1, 0), 1);
            due("by steps", x.barge(0, 0), 2);
        });
        holds("till there is none:", () -> {
            WaterStair x = stair("level 5 1;level 0 1;barge 5 0 1 0;barge 1 0 1 0");
            due("the water is gone", x.run(200), 1);
            due("none", x.run(200), 0);
            due("none", x.run(1), 0);
            due("no barges", stair("level 9 1;level 9 1").run(200), 0);
        });
        holds("how many were done (each as one here),", () -> {
            WaterStair x = stair("level 99 1;level 9 1;barge 5 1 0 0;barge 5 1 0 0");
            due("asked", x.would(200, 0), 2);
            due("done", x.run(200), 2);
            due("as they count", x.count(3), 4);
        });
        holds("(By what is asked nothing changes.)", () -> {
            WaterStair x = stair(THREE);
            x.seed(1);
            x.seen(0, 20);
            x.book(1, NONE, 1);
            force(x, "bar tips > 90");
            String before = all(x);
            x.may(0, 0, NONE);
            x.would(200, 0);
            x.can();
            x.plan(7, false);
            x.plan(7, true);
            x.row(7, true, 0, 0);
            x.drought(3, 1);
            stays(x, before);
            x.pass(0);
            x.worst();
            x.went(3, 0);
            x.went(3, 9);
            x.smuggled(0);
            x.seasons(20, 99, 1);
            x.count(0);
            stays(x, before);
        });
    }

    private void stuck() {
        holds("STUCK: no TIP may be, and not all are HOME.", () -> {
            WaterStair x = stair("level 4 1;level 0 1;barge 5 0 1 0;barge 9 0 0 0");
            due("a tip may be", x.would(0, 3), 0);
            x.tip(0, 1, NONE);
            due("none may be", x.would(0, 3), 1);
            due("none may be", x.would(200, 3), 1);
            x.rain(0, 1);
            due("it may be again", x.would(0, 3), 0);
            due("all home behind it", x.would(1, 3), 0);
            x.run(1);
            due("all home", x.would(0, 3), 0);
            due("no barges", stair("level 9 1;level 9 1").would(0, 3), 0);
        });
        holds("CAN: how many TIPS may be now.", () -> {
            WaterStair x = stair("level 99 1;level 9 1" + ";barge 5 0 0 0".repeat(3) + ";barge 5 0 1 0".repeat(3));
            due("the most", x.can(), 15);
            x.chain(0, false);
            due("none", x.can(), 0);
            due("no barges", stair("level 9 1;level 9 1").can(), 0);
            x = stair(TWO);
            x.run(200);
            due("all home", x.can(), 0);
        });
    }

    private void run() {
        holds("A RUN that is done: how many TIPS;", () -> {
            WaterStair x = stair("level 9 8" + ";level 9 8".repeat(7) + ";barge 9 0 0 0".repeat(6));
            due("all there can be", x.run(200), 42);
            due("home", x.count(2), 6);
            due("tips", x.count(3), 42);
            due("none is left", x.run(200), 0);
            x = stair(THREE);
            due("some", x.run(2), 2);
            due("poured by them", x.count(5), 0);
            due("the others", x.run(3), 3);
            due("poured by them", x.count(5), 8);
        });
        holds("NONE without these (no STAIR).", () -> {
            WaterStair x = stair(TWO);
            String before = all(x);
            due("-1", x.run(-1), NONE);
            due("201", x.run(201), NONE);
            due("far", x.run(FAR), NONE);
            due("deep", x.run(DEEP), NONE);
            stays(x, before);
            due("no stair", new WaterStair().run(0), NONE);
            due("no stair", new WaterStair().run(200), NONE);
        });
    }

    private void would() {
        holds("1: BARGES that are HOME,", () -> {
            WaterStair x = stair(TWO);
            due("none yet", x.would(0, 1), 0);
            due("all", x.would(1, 1), 2);
            x.run(200);
            due("all, with no tip", x.would(0, 1), 2);
            due("no barges", stair("level 9 1;level 9 1").would(200, 1), 0);
        });
        holds("2: WATER poured,", () -> {
            WaterStair x = stair("level 9 1;level 9 1;barge 1 0 1 0;barge 2 0 1 0");
            due("by none", x.would(0, 2), 0);
            due("by one", x.would(1, 2), 1);
            due("by both", x.would(2, 2), 3);
            x.run(1);
            due("in that run alone", x.would(200, 2), 2);
        });
        holds("3: 1 if it is STUCK then, else 0.", () -> {
            WaterStair x = stair("level 1 1;level 9 1;barge 1 0 1 0;barge 1 0 1 0");
            due("not yet", x.would(0, 3), 0);
            due("behind one", x.would(1, 3), 1);
            x.rain(0, 1);
            due("behind one of two", x.would(1, 3), 0);
            due("all home", x.would(2, 3), 0);
        });
        holds("NONE without these.", () -> {
            WaterStair x = stair(TWO);
            due("n -1", x.would(-1, 0), NONE);
            due("n 201", x.would(201, 0), NONE);
            due("n far", x.would(FAR, 0), NONE);
            due("n 200", x.would(200, 0), 1);
            due("what -1", x.would(1, -1), NONE);
            due("what 4", x.would(1, 4), NONE);
            due("what far", x.would(1, FAR), NONE);
            for (int what = 0; what <= 3; what++) {
                due("no stair", new WaterStair().would(0, what), NONE);
            }
        });
    }

    private void can() {
        holds("CAN;", () -> {
            due("none", stair("level 9 1;level 9 1").can(), 0);
            due("one", stair("level 9 1;level 9 1;barge 9 0 0 0").can(), 1);
            due("of both barges", stair(TWO).can(), 3);
        });
        holds("NONE without a STAIR.", () -> {
            WaterStair x = new WaterStair();
            due("new", x.can(), NONE);
            tell(x, "level 9 1");
            x.stair();
            due("behind a fault", x.can(), NONE);
        });
    }
}
