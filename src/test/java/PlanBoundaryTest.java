/** The boundary cases that promises 16 to 29 name, and the terms that they use: plans, dusk, seasons, images. */
public final class PlanBoundaryTest extends Sentences {
    // lifted for nothing by one barge, for much without it
    private static final String LIFTS = "level 50 1;level 4 1;lag 3;barge 2 0 0 0;barge 20 0 0 0;barge 10 0 1 0";
    // four barges that go down for nothing, each where it likes: 8 * 8 * 8 * 8 situations
    private static final String MANY = "level 9 8" + ";level 9 8".repeat(7)
            + ";barge 9 0 0 1;barge 9 0 0 2;barge 9 0 0 3;barge 9 0 0 4";

    public static void main(String[] args) throws Exception {
        new PlanBoundaryTest().report();
    }

    @Override
    void prove() {
        heading("Terms");
        situations();
        mostSituations();
        heading("Promise 16");
        plan();
        heading("Promise 17");
        row();
        heading("Terms");
        droughts();
        heading("Promise 18");
        drought();
        passers();
        heading("Promise 21");
        seen();
        heading("Terms");
        wentBy();
        wentFirst();
        heading("Promise 22");
        went();
        heading("Promise 23");
        book();
        heading("Terms");
        smuggledPairs();
        heading("Promise 24");
        smuggled();
        heading("Promise 25");
        seed();
        heading("Terms");
        seasonsDrawn();
        heading("Promise 26");
        seasons();
        heading("Promise 27");
        count();
        heading("Promise 28");
        image();
        heading("Promise 29");
        back();
        heading("Terms");
        images();
    }

    private void rowIs(WaterStair x, int set, boolean byWater, int... wanted) {
        for (int i = 0; i < wanted.length; i++) {
            due("row " + i / 3 + " " + i % 3, x.row(set, byWater, i / 3, i % 3), wanted[i]);
        }
        due("row's end", x.row(set, byWater, wanted.length / 3, 0), -2);
    }

    // ---------------------------------------------------------------- plans

    private void situations() {
        holds("PLAN by TIPS (as they count) or by WATER (poured in all TIPS):", () -> {
            WaterStair x = stair("level 99 8;level 9 8;barge 9 1 0 0;barge 9 0 1 0;barge 5 0 0 0");
            due("a wide one counts 2", x.plan(1, false), 2);
            due("lifted with a wide one: 2, or with the other: 1", x.plan(2, false), 1);
            due("with the wide one: 0 tons", x.plan(2, true), 0);
            due("all", x.plan(7, false), 3);
        });
        holds("the least by which all BARGES of a told set are HOME (others may go, too).", () -> {
            WaterStair x = stair(LIFTS);
            due("barge 2 alone, by water", x.plan(4, true), 0);
            rowIs(x, 4, true, 0, 1, 2);
            due("barge 2 alone, by tips", x.plan(4, false), 1);
            due("both that go down", x.plan(3, false), 2);
        });
        holds("the one now is the first)", () -> {
            WaterStair x = stair(TWO);
            due("none of them", x.plan(0, false), 0);
            rowIs(x, 0, false);
            x.run(200);
            due("home already", x.plan(3, true), 0);
            rowIs(x, 3, true);
        });
        holds("of several the one that came first;", () -> {
            // barge 0 is home by 1 tip: alone, or with 1 or 2; with 1 comes first
            WaterStair x = stair("level 99 8;level 9 8;barge 9 0 0 0;barge 9 0 1 0;barge 9 0 1 0");
            rowIs(x, 1, false, 0, 0, 1);
            rowIs(x, 1, true, 0, 0, 1);
            rowIs(x, 7, false, 0, 0, 1, 0, NONE, 2);
        });
        holds("was not gone through and is had with less now keeps its place, has less, and the way to it is this one.", () -> {
            // both ways pour 4 tons: 1 with 3 and 0 with 2 count 4, 0 with 3 and 1 with 2 count 3
            WaterStair x = stair("level 100 1;level 4 1;barge 10 1 0 0;barge 11 0 0 0;barge 11 0 1 0;barge 12 1 1 0");
            force(x, "bar down = 11 and up = 11 and water = 100");
            due("less", x.plan(15, false), 3);
            rowIs(x, 15, false, 0, 0, 3, 0, 1, 2);
        });
        holds("(For RULES tips is as it is now in each.)", () -> {
            WaterStair x = stair("level 9 1;level 9 1;barge 9 1 0 0;barge 9 0 0 0;barge 9 0 0 0");
            force(x, "bar tips > 1");
            due("none was done", x.plan(7, false), 4);
            x.tip(0, 1, NONE);
            due("1 was done", x.plan(7, false), 3);
            x.tip(0, 2, NONE);
            due("2 were done", x.plan(7, false), -2);
        });
    }

    /**
     * Barges 0 to 4 go down for nothing, as far as a rule lets them: 5 * 5 * 5 * 4 * 3 = 1500 situations. Barge 5
     * can go where all six are, and then no other can: one situation more.
     */
    private void mostSituations() {
        String stair = "level 19 8" + ";level 0 8".repeat(5) + ";lag 20;barge 21 0 0 1;barge 22 0 0 1;barge 23 0 0 1;"
                + "barge 24 0 0 1;barge 25 0 0 1;barge 1 0 0 1";
        String rule = "bar down=21 and step=4;bar down=22 and step=4;bar down=23 and step=4;bar down=24 and step=3;"
                + "bar down=25 and step=2;bar step=0 and water<19;bar down=1 and step>0;bar down=1 and here<";
        holds("1500 at most:", () -> {
            WaterStair x = stair(stair);
            force(x, rule + "7");
            due("by tips", x.plan(1, false), -2);
            due("by water", x.plan(1, true), -2);
            due("no row", x.row(1, false, 0, 0), -2);
        });
        holds("if one more would come, it is UNKNOWN.", () -> {
            WaterStair x = stair(stair);
            force(x, rule + "6");
            due("by tips", x.plan(1, false), -3);
            due("by water", x.plan(1, true), -3);
            due("no row", x.row(1, false, 0, 0), -3);
            due("none of them", x.plan(0, false), 0);
            x = stair(MANY);
            due("one ahead of the 1501st", x.plan(8, false), 7);
            due("all of them", x.plan(15, false), -3);
            due("one again", x.plan(1, false), 7);
        });
    }

    private void plan() {
        holds("PLAN of a set (by WATER, or TIPS): the least;", () -> {
            WaterStair x = stair(LIFTS);
            due("tips", x.plan(7, false), 2);
            due("water", x.plan(7, true), 1);
            due("tips again", x.plan(7, false), 2);
            due("no barges", stair("level 9 1;level 9 1").plan(0, true), 0);
        });
        holds("-2: it can't be,", () -> {
            WaterStair x = stair("level 4 1;level 4 1;barge 5 0 1 0;barge 1 0 0 0");
            due("just too little", x.plan(3, false), 1);
            x.tip(0, 1, NONE);
            due("too little", x.plan(1, false), -2);
            due("the other", x.plan(2, false), 0);
            due("too little, by water", x.plan(1, true), -2);
            x.rain(0, 1);
            due("just enough", x.plan(1, true), 5);
            x.chain(0, false);
            due("by a chain", x.plan(1, true), -2);
            x.chain(0, true);
            due("mended", x.plan(1, true), 5);
            force(x, "bar 1=1");
            due("by a rule", x.plan(1, true), -2);
        });
        holds("-3: UNKNOWN;", () -> {
            WaterStair x = stair(MANY);
            due("by tips", x.plan(15, false), -3);
            due("by water", x.plan(15, true), -3);
        });
        holds("NONE without these.", () -> {
            WaterStair x = stair(TWO);
            due("the largest set", x.plan(3, false), 1);
            for (int set : new int[] {-1, 4, 64, FAR, DEEP}) {
                due("set " + set, x.plan(set, false), NONE);
                due("set " + set, x.plan(set, true), NONE);
            }
            due("no barges", stair("level 9 1;level 9 1").plan(1, false), NONE);
            x = stair("level 9 1;level 9 1" + ";barge 9 0 0 0".repeat(6));
            due("six", x.plan(63, false), 6);
            due("more than six", x.plan(64, false), NONE);
            due("no stair", new WaterStair().plan(0, false), NONE);
        });
    }

    private void row() {
        holds("The ROW of that PLAN, its k-th TIP", () -> {
            WaterStair x = stair(LIFTS);
            rowIs(x, 7, false, 0, 0, 2, 0, 1, NONE);
            rowIs(x, 7, true, 0, 1, 2, 0, 0, NONE);
            x = stair("level 9 8" + ";level 9 8".repeat(7) + ";barge 9 0 0 0;barge 9 0 1 0");
            due("the last tip of the row", x.row(1, false, 6, 0), 6);
            due("none behind it", x.row(1, false, 7, 0), -2);
        });
        holds("2: up (NONE: none).", () -> {
            WaterStair x = stair("level 9 1;level 9 1;barge 5 0 0 0");
            due("down", x.row(1, false, 0, 1), 0);
            due("up", x.row(1, false, 0, 2), NONE);
            x = stair("level 9 1;level 9 1;barge 5 0 1 0");
            due("down", x.row(1, false, 0, 1), NONE);
            due("up", x.row(1, false, 0, 2), 0);
        });
        holds("-2: there is no PLAN,", () -> {
            WaterStair x = stair(TWO + ";broken 0");
            for (int what = 0; what <= 2; what++) {
                due("none", x.row(3, false, 0, what), -2);
                due("none", x.row(1, true, FAR, what), -2);
            }
        });
        holds("or it has not so many,", () -> {
            WaterStair x = stair(TWO);
            due("the only one", x.row(3, false, 0, 0), 0);
            due("the second of one", x.row(3, false, 1, 0), -2);
            due("far", x.row(3, false, FAR, 0), -2);
            due("the first of none", x.row(0, true, 0, 0), -2);
        });
        holds("-3: UNKNOWN;", () -> {
            WaterStair x = stair(MANY);
            due("the first", x.row(15, false, 0, 0), -3);
            due("far", x.row(15, true, FAR, 2), -3);
            due("of a set that is known", x.row(1, false, 7, 0), -2);
        });
        holds("NONE without these (k below 0, too).", () -> {
            WaterStair x = stair(TWO);
            due("k -1", x.row(3, false, -1, 0), NONE);
            due("k deep", x.row(3, false, DEEP, 0), NONE);
            due("what -1", x.row(3, false, 0, -1), NONE);
            due("what 3", x.row(3, false, 0, 3), NONE);
            due("set -1", x.row(-1, false, 0, 0), NONE);
            due("set 4", x.row(4, false, 0, 0), NONE);
            due("what 3 behind its end", x.row(3, false, 5, 3), NONE);
            x.chain(0, false);
            due("k -1 where there is no plan", x.row(3, false, -1, 0), NONE);
            due("k -1 where it is unknown", stair(MANY).row(15, false, -1, 0), NONE);
            due("no stair", new WaterStair().row(0, false, 0, 0), NONE);
        });
    }

    // ---------------------------------------------------------------- droughts

    private void droughts() {
        String three = "level 50 1;level 4 1;barge 5 0 0 3;barge 6 0 1 10;barge 5 0 1 10";
        holds("DROUGHT: if LEVEL 0 had but so much WATER:", () -> {
            WaterStair x = stair(three);
            due("0: with barge 0", x.drought(0, 1), 5);
            due("1 for barge 1 with barge 0", x.drought(1, 1), 3);
            due("5 for barge 2, but 6 for both", x.drought(5, 0), 13);
            due("just enough for all", x.drought(6, 1), 7);
            x = stair("level 0 1;level 4 1;barge 5 0 1 2");
            due("more than there is", x.drought(5, 1), 1);
            due("none for it", x.drought(4, 1), 0);
            due("the water stays", x.level(0, 0), 0);
            due("the plan is of that", x.plan(1, false), -2);
        });
        holds("the most TOLL together,", () -> {
            WaterStair x = stair("level 50 1;level 4 1;barge 5 0 1 3;barge 5 0 1 4;barge 6 0 1 3");
            due("one of them: more by 1", x.drought(5, 1), 2);
            x = stair("level 50 1;level 4 1;barge 5 0 1 4;barge 5 0 1 3;barge 9 0 1 8");
            due("one that has more than both", x.drought(10, 1), 4);
            x = stair("level 50 1;level 4 1;barge 5 0 1 4;barge 5 0 1 5;barge 9 0 1 8");
            due("both have more than one", x.drought(10, 1), 3);
        });
        holds("of several the fewest BARGES,", () -> {
            WaterStair x = stair("level 50 1;level 4 1;barge 5 0 1 4;barge 5 0 1 4;barge 9 0 1 8");
            due("one, though it is more as bits", x.drought(10, 1), 4);
            due("a toll of 0 adds none", stair("level 9 1;level 4 1;barge 5 0 0 0;barge 5 0 0 7").drought(9, 1), 2);
            due("none of them", stair("level 9 1;level 4 1;barge 5 0 0 0").drought(9, 1), 0);
        });
        holds("then the least as bits.", () -> {
            WaterStair x = stair("level 50 1;level 4 1;barge 5 0 1 4;barge 5 0 1 4;barge 5 0 1 4");
            due("one of three", x.drought(5, 1), 1);
            due("two of three", x.drought(10, 1), 3);
        });
        holds("(A set whose PLAN is UNKNOWN counts as one that can't be.)", () -> {
            WaterStair x = stair(MANY);
            due("two of them", x.plan(12, false), -3);
            due("the dearest one", x.drought(9, 1), 8);
            due("its toll", x.drought(9, 0), 4);
        });
    }

    private void drought() {
        holds("DROUGHT (tons 0 to 999)", () -> {
            WaterStair x = stair("level 50 1;level 4 1;barge 9 0 0 3;barge 5 0 1 4");
            force(x, "bar water = 0;bar water = 999");
            due("0", x.drought(0, 0), 0);
            due("1", x.drought(1, 0), 7);
            due("998", x.drought(998, 0), 7);
            due("999", x.drought(999, 0), 0);
            due("-1", x.drought(-1, 0), NONE);
            due("1000", x.drought(1000, 0), NONE);
        });
        holds("what 0: TOLL, 1: the set.", () -> {
            WaterStair x = stair("level 50 1;level 4 1" + ";barge 9 0 0 999".repeat(6));
            due("all tolls", x.drought(0, 0), 5994);
            due("all", x.drought(0, 1), 63);
            x = stair("level 9 1;level 9 1");
            due("no toll", x.drought(0, 0), 0);
            due("none", x.drought(0, 1), 0);
        });
        holds("NONE without these.", () -> {
            WaterStair x = stair(TWO);
            due("tons -1", x.drought(-1, 1), NONE);
            due("tons 1000", x.drought(1000, 1), NONE);
            due("tons far", x.drought(FAR, 0), NONE);
            due("tons deep", x.drought(DEEP, 0), NONE);
            due("what -1", x.drought(0, -1), NONE);
            due("what 2", x.drought(0, 2), NONE);
            due("no stair", new WaterStair().drought(0, 0), NONE);
            due("no stair", new WaterStair().drought(0, 1), NONE);
        });
    }

    // ---------------------------------------------------------------- who must pass

    private void passers() {
        heading("Terms");
        holds("CHAIN: for a STEP how many BARGES that are not HOME must pass it still.", () -> {
            WaterStair x = stair("level 9 1;level 9 1;level 9 1;broken 0;barge 5 0 0 0;barge 9 0 1 0");
            due("all", x.pass(0), 2);
            x.chain(0, true);
            x.tip(0, 0, NONE);
            due("0 has passed", x.pass(0), 1);
            due("it must pass the next", x.pass(1), 2);
            x.tip(1, 0, 1);
            due("both have passed", x.pass(1), 0);
            due("1 must still", x.pass(0), 1);
            x.tip(0, NONE, 1);
            due("all are home", x.pass(0), 0);
            due("no barges", stair("level 9 1;level 9 1").pass(0), 0);
            due("six", stair("level 9 1;level 9 1" + ";barge 9 0 1 0".repeat(6)).pass(0), 6);
        });
        holds("WORST: the STEP that most must, of several the least.", () -> {
            WaterStair x = stair("level 9 8;level 9 8;level 9 8;barge 9 0 0 0;barge 9 0 0 0;barge 9 0 1 0");
            due("of several the least", x.worst(), 0);
            x.tip(0, 0, NONE);
            due("more by 1", x.worst(), 1);
            x.tip(1, 0, 2);
            due("more by 1", x.worst(), 0);
            x.run(200);
            due("none must", x.worst(), 0);
            due("no barges", stair("level 9 1;level 9 1").worst(), 0);
            x = stair("level 9 8" + ";level 9 8".repeat(7) + ";barge 9 0 0 0");
            x.run(6);
            due("the last step", x.worst(), 6);
        });
        heading("Promise 19");
        holds("NONE without that STEP.", () -> {
            WaterStair x = stair(TWO);
            for (int step : new int[] {-1, 1, 7, FAR, DEEP}) {
                due("step " + step, x.pass(step), NONE);
            }
            due("step 7 of eight levels", stair(MANY).pass(7), NONE);
            due("step 6 of eight levels", stair(MANY).pass(6), 4);
            due("no stair", new WaterStair().pass(0), NONE);
        });
        heading("Promise 20");
        holds("NONE without a STAIR.", () -> {
            due("new", new WaterStair().worst(), NONE);
            due("no barges", stair("level 9 1;level 9 1").worst(), 0);
        });
    }

    // ---------------------------------------------------------------- dusk

    private void seen() {
        holds("SEEN of a LEVEL (tons 0 to 9999;", () -> {
            WaterStair x = stair("level 0 1;level 9 1;barge 5 0 0 0");
            x.rain(1, 9999);
            due("0", x.seen(0, 0), true);
            due("so it is", x.went(1, 0), 1);
            due("9999", x.seen(1, 9999), true);
            due("so it is", x.went(1, 0), 1);
            due("another in its place", x.seen(1, 9998), true);
            due("so it is not", x.went(1, 0), 0);
            due("10000", x.seen(1, 10000), false);
            due("levels seen", x.count(10), 2);
        });
        holds("-1: not SEEN): true;", () -> {
            WaterStair x = stair(TWO);
            due("not seen before", x.seen(0, -1), true);
            due("levels seen", x.count(10), 0);
            due("seen", x.seen(0, 8888), true);
            due("so it is not", x.went(1, 0), 0);
            due("not seen", x.seen(0, -1), true);
            due("levels seen", x.count(10), 0);
            due("none is asked", x.went(1, 0), 3);
        });
        holds("false, and nothing happens, without these.", () -> {
            WaterStair x = stair(TWO);
            x.seen(0, 9);
            String before = all(x);
            due("tons -2", x.seen(0, -2), false);
            due("tons 10000", x.seen(0, 10000), false);
            due("tons far", x.seen(0, FAR), false);
            due("tons deep", x.seen(0, DEEP), false);
            due("level -1", x.seen(-1, 0), false);
            due("level 2", x.seen(2, 0), false);
            due("level 8", x.seen(8, 0), false);
            due("level far", x.seen(FAR, -1), false);
            stays(x, before);
            due("9 is seen still", x.went(1, 0), 2);
            due("no stair", new WaterStair().seen(0, 0), false);
            due("no stair", new WaterStair().seen(0, -1), false);
        });
    }

    private void wentBy() {
        holds("WENT BY in n TIPS (1 to 3):", () -> {
            WaterStair x = stair("level 9 8;level 4 8" + ";barge 5 0 0 0".repeat(4));
            due("1", x.went(1, 0), 4);
            due("2", x.went(2, 0), 12);
            due("3", x.went(3, 0), 24);
            due("0", x.went(0, 0), NONE);
            due("4", x.went(4, 0), NONE);
            x = stair("level 9 8;level 4 8;barge 5 0 0 0;barge 5 0 0 0");
            due("just as many as there are", x.went(2, 0), 2);
            due("more than there are", x.went(3, 0), 0);
        });
        holds("behind which all SEEN are so:", () -> {
            WaterStair x = stair("level 9 8;level 4 8;barge 2 0 1 0;barge 3 0 1 0");
            due("none is seen", x.went(1, 0), 2);
            x.seen(0, 7);
            due("one is seen", x.went(1, 0), 1);
            x.seen(1, 6);
            due("both are seen", x.went(1, 0), 1);
            x.seen(1, 7);
            due("one of both is so", x.went(1, 0), 0);
            x.seen(0, 6);
            due("both are so again", x.went(1, 0), 1);
            x.seen(0, 4);
            x.seen(1, 9);
            due("behind two", x.went(2, 0), 2);
            due("not behind one", x.went(1, 0), 0);
        });
        // fifteen tips are the most that six barges can have at once, so that 3375 rows are never passed
        holds("how many (30000 at most);", () -> {
            WaterStair x = stair("level 99 1;level 9 1" + ";barge 5 0 0 0".repeat(3) + ";barge 5 0 1 0".repeat(3));
            due("by 1", x.went(1, 0), 15);
            due("by 2: 9 * 8 + 6 * 11", x.went(2, 0), 138);
            due("by 3: 9 * 32 + 6 * 68", x.went(3, 0), 696);
        });
    }

    private void wentFirst() {
        holds("of these the first (as a RUN would try them).", () -> {
            WaterStair x = stair("level 9 8;level 9 8;barge 1 0 1 0;barge 5 0 0 0;barge 5 0 0 0;barge 1 0 1 0");
            due("down", x.went(1, 2), 1);
            due("up", x.went(1, 3), 0);
            due("down of the second", x.went(2, 5), 2);
            due("up of the second", x.went(2, 6), 3);
            x.seen(0, 8);
            due("down: none, behind all", x.went(1, 2), NONE);
            due("up: the least", x.went(1, 3), 0);
        });
    }

    private void went() {
        holds("1 to 9: of the first one STEP, down, up of the first TIP, of the second one, and so on", () -> {
            WaterStair x = stair("level 9 8;level 9 8;level 9 8;barge 5 0 0 0;barge 5 0 1 0");
            x.seen(1, 4);
            int[] wanted = {0, 0, NONE, 1, NONE, 1};
            for (int i = 0; i < wanted.length; i++) {
                due("what " + (i + 1), x.went(2, i + 1), wanted[i]);
            }
            x.seen(1, 9);
            int[] three = {0, 0, NONE, 1, 0, NONE, 1, NONE, 1};
            x.seen(2, 14);
            x.seen(1, 4);
            for (int i = 0; i < three.length; i++) {
                due("what " + (i + 1), x.went(3, i + 1), three[i]);
            }
        });
        holds("(-2: there is none).", () -> {
            WaterStair x = stair(TWO);
            x.seen(0, 9999);
            for (int what = 1; what <= 9; what++) {
                due("what " + what, x.went(3, what), -2);
            }
            due("how many", x.went(3, 0), 0);
            x.seen(0, -1);
            due("one that has a first", x.went(1, 1), 0);
            due("none of three tips", x.went(3, 1), -2);
        });
        holds("NONE without these (beyond n TIPS, too; no STAIR).", () -> {
            WaterStair x = stair(TWO);
            due("n 0", x.went(0, 0), NONE);
            due("n 4", x.went(4, 0), NONE);
            due("n -1", x.went(-1, 0), NONE);
            due("n far", x.went(FAR, 1), NONE);
            due("what -1", x.went(1, -1), NONE);
            due("what 3 of 1", x.went(1, 3), 1);
            due("what 4 of 1", x.went(1, 4), NONE);
            due("what 6 of 2", x.went(2, 6), 1);
            due("what 7 of 2", x.went(2, 7), NONE);
            due("what 9 of 3", x.went(3, 9), -2);
            due("what 10 of 3", x.went(3, 10), NONE);
            due("what far", x.went(3, FAR), NONE);
            x.seen(0, 9999);
            due("what 4 of 1, of no row", x.went(1, 4), NONE);
            due("no stair", new WaterStair().went(1, 0), NONE);
            due("no stair", new WaterStair().went(3, 9), NONE);
        });
    }

    private void book() {
        holds("A TIP comes behind the BOOK", () -> {
            WaterStair x = stair(TWO + ";broken 0");
            force(x, "bar 1=1");
            due("the first", x.book(0, 0, NONE), 1);
            due("whether it may be or not", x.book(0, 1, 0), 2);
            due("the same both ways", x.book(0, 0, 0), 3);
            due("up alone", x.book(0, NONE, 1), 4);
            due("tips in it", x.count(9), 4);
            due("none was done", x.count(3), 0);
        });
        holds("(step NONE: it is empty then, 0):", () -> {
            WaterStair x = stair(TWO);
            due("an empty one", x.book(NONE, 0, 0), 0);
            for (int i = 0; i < 10; i++) {
                x.book(0, 0, NONE);
            }
            due("a full one", x.book(NONE, NONE, NONE), 0);
            due("tips in it", x.count(9), 0);
            due("the first again", x.book(0, 0, NONE), 1);
            due("barges that are none", x.book(NONE, 9, -9), 0);
            due("tips in it", x.count(9), 0);
        });
        holds("-2, and nothing happens, without these,", () -> {
            WaterStair x = stair(TWO);
            x.book(0, 0, 1);
            String before = all(x);
            due("step 1", x.book(1, 0, 1), -2);
            due("step -2", x.book(-2, 0, 1), -2);
            due("step far", x.book(FAR, 0, 1), -2);
            due("step deep", x.book(DEEP, 0, 1), -2);
            due("down 2", x.book(0, 2, 1), -2);
            due("down -2", x.book(0, -2, 1), -2);
            due("up 2", x.book(0, 0, 2), -2);
            due("up -2", x.book(0, 0, -2), -2);
            stays(x, before);
            due("no stair", new WaterStair().book(0, 0, NONE), -2);
            due("no barges", stair("level 9 1;level 9 1").book(0, 0, NONE), -2);
        });
        holds("if both BARGES are NONE,", () -> {
            WaterStair x = stair(TWO);
            due("both", x.book(0, NONE, NONE), -2);
            due("tips in it", x.count(9), 0);
        });
        holds("or if it has 10.", () -> {
            WaterStair x = stair("level 99 1;level 9 1;barge 1 0 1 0;barge 7 0 1 0");
            for (int i = 1; i <= 10; i++) {
                due("book", x.book(0, NONE, 0), i);
            }
            due("an eleventh", x.book(0, NONE, 1), -2);
            due("tips in it", x.count(9), 10);
            x.seen(0, 99 - 10 - 10);
            due("all ten are done, the eleventh is not", x.smuggled(2), 1);
        });
    }

    private void smuggledPairs() {
        holds("SMUGGLED: a BOOK of TIPS 0 to 9", () -> {
            WaterStair x = stair("level 99 1;level 0 1;barge 1 0 1 0");
            due("none in it, none seen", x.smuggled(0), 20);
            x.seen(0, 99);
            due("none in it, as it is now", x.smuggled(0), 20);
            x.seen(0, 98);
            due("none in it, not as it is now", x.smuggled(0), 0);
            x.book(0, NONE, 0);
            x.seen(0, 97);
            due("one in it", x.smuggled(2), 1);
            for (int i = 0; i < 9; i++) {
                x.book(0, NONE, 0);
            }
            x.seen(0, 59);
            due("ten in it", x.smuggled(2), 3);
        });
        holds("whether they may be or not (WATER may be below 0 then, BARGES are where they are):", () -> {
            WaterStair x = stair("level 0 1;level 0 1;level 0 1;broken 0;broken 1;barge 5 0 1 0;barge 5 0 0 0");
            force(x, "bar 1=1");
            // level 1 has -7 behind the first, and 0 behind the second; level 0 has -7
            x.book(1, NONE, 0);
            x.book(0, NONE, 0);
            x.seen(1, 0);
            x.seen(2, 7);
            due("pairs", x.smuggled(0), 1);
            due("e", x.smuggled(2), 2);
            due("the barge is where it is", x.barge(0, 0), 2);
            x.book(NONE, 0, 0);
            x.book(0, NONE, 1);
            x.seen(2, 0);
            x.seen(1, 6);
            due("one that goes down, lifted", x.smuggled(1), 1);
            due("e", x.smuggled(2), 1);
        });
        holds("pairs of a BARGE and e (1 to 20)", () -> {
            WaterStair x = stair("level 99 1;level 0 1;barge 1 0 1 0");
            x.book(0, NONE, 0);
            x.seen(0, 98);
            due("0", x.smuggled(0), 0);
            x.seen(0, 97);
            due("1", x.smuggled(2), 1);
            x.seen(0, 78);
            due("20", x.smuggled(2), 20);
            x.seen(0, 77);
            due("21", x.smuggled(0), 0);
        });
        holds("how many, the first (least BARGE, then least e).", () -> {
            WaterStair x = stair("level 99 1;level 0 1;barge 9 0 0 0;barge 4 0 1 0;barge 4 0 1 0");
            x.book(0, 0, 1);
            x.seen(0, 99);
            // any e of barge 0 and of barge 2, up to 5 of barge 1
            due("how many", x.smuggled(0), 45);
            due("the first barge", x.smuggled(1), 0);
            due("its least e", x.smuggled(2), 1);
            x.book(NONE, 0, 0);
            x.book(0, 0, 1);
            x.book(0, 0, 2);
            x.seen(0, 98);
            due("of 1 and 2: 6 each", x.smuggled(0), 2);
            due("the least barge", x.smuggled(1), 1);
            due("its e", x.smuggled(2), 6);
        });
    }

    private void smuggled() {
        holds("1: the BARGE of the first (-2: there is none),", () -> {
            WaterStair x = stair(TWO);
            due("barge 0", x.smuggled(1), 0);
            x.seen(0, 0);
            due("none", x.smuggled(1), -2);
            due("no barges", stair("level 9 1;level 9 1").smuggled(1), -2);
        });
        holds("2: its e (0: there is none).", () -> {
            WaterStair x = stair(TWO);
            due("1", x.smuggled(2), 1);
            x.seen(0, 0);
            due("none", x.smuggled(2), 0);
            due("no pair", x.smuggled(0), 0);
            due("no barges", stair("level 9 1;level 9 1").smuggled(2), 0);
        });
        holds("NONE without these, or a STAIR.", () -> {
            WaterStair x = stair(TWO);
            due("what -1", x.smuggled(-1), NONE);
            due("what 3", x.smuggled(3), NONE);
            due("what far", x.smuggled(FAR), NONE);
            for (int what = 0; what <= 2; what++) {
                due("no stair", new WaterStair().smuggled(what), NONE);
            }
        });
    }

    // ---------------------------------------------------------------- draws

    private void seed() {
        holds("x becomes a number: what it was;", () -> {
            WaterStair x = new WaterStair();
            due("0 at first", x.seed(FAR), 0);
            due("the largest", x.seed(0), FAR);
            due("0 again", x.seed(0), 0);
            due("x", x.count(11), 0);
        });
        holds("NONE, and nothing happens, below 0.", () -> {
            WaterStair x = new WaterStair();
            x.seed(7);
            due("-1", x.seed(-1), NONE);
            due("deep", x.seed(DEEP), NONE);
            due("x", x.count(11), 7);
        });
    }

    /** One barge, narrow: what is poured tells of which weight and way it was. */
    private void seasonsDrawn() {
        String one = "level 500 1;level 0 1;lag 20;barge 5 0 0 3";
        holds("DRAWS: x (0 to 2147483647; 0 at first) becomes x * 1103515245 + 12345, of 2147483648 the rest;", () -> {
            WaterStair x = stair(one);
            // 12345 and 1406932606: weight 1 and 0, down
            due("from 0", x.seasons(1, 99, 1), 20 - 1);
            // 1043980748 and 288979989: 15929 mod 99 is 89, 4409 is odd, up
            x.seed(FAR);
            due("from the largest", x.seasons(1, 99, 1), 90 + 20);
            // then 646343466 and 1751031067: 9862 mod 99 is 61, 26718 is even, down for nothing
            due("and on from there", x.seasons(2, 99, 1), 110);
            due("x", x.count(11), FAR);
            // 0 and 12345
            x.seed(2088216195);
            due("to 0", x.seasons(1, 99, 1), 20 - 1);
        });
        holds("SEASONS m times (1 to 20):", () -> {
            WaterStair x = stair("level 999 1;level 0 1;barge 5 0 0 3");
            due("1", x.seasons(1, 99, 0), 1);
            due("20", x.seasons(20, 99, 0), 20);
            due("0", x.seasons(0, 99, 0), NONE);
            due("21", x.seasons(21, 99, 0), NONE);
        });
        holds("all BARGES are at their begin,", () -> {
            WaterStair x = stair(one);
            x.tip(0, 0, NONE);
            due("it is home", x.count(2), 1);
            due("it goes down again", x.seasons(1, 99, 1), 19);
            x.chain(0, false);
            due("and is not home without", x.seasons(20, 99, 0), 0);
        });
        holds("of WEIGHT 1 and a DRAW mod w (1 to 99)", () -> {
            WaterStair x = stair(one);
            x.seed(FAR);
            due("mod 1 is 0", x.seasons(1, 1, 1), 1 + 20);
            // 15929 is odd
            due("mod 2 is 1", x.seasons(1, 2, 1), 2 + 20);
            due("mod 99 is 89", x.seasons(1, 99, 1), 90 + 20);
            due("mod 0", x.seasons(1, 0, 1), NONE);
            due("mod 100", x.seasons(1, 100, 1), NONE);
        });
        holds("and of WAY a DRAW mod 2,", () -> {
            WaterStair x = stair("level 19 1;level 0 1;lag 20;barge 5 0 1 3");
            // 21468 is even, and then 22117 is odd
            due("down", x.seasons(1, 1, 0), 1);
            x.seed(1406932606);
            due("up, for which there is too little", x.seasons(1, 1, 0), 0);
            x.rain(0, 2);
            due("just enough", x.seasons(1, 1, 1), 21);
        });
        holds("a RUN of 200 TIPS:", () -> {
            WaterStair x = stair("level 999 8" + ";level 999 8".repeat(7) + ";barge 9 0 0 0".repeat(6));
            due("all come home", x.seasons(1, 1, 0), 6);
            due("in all seasons", x.seasons(20, 99, 0), 120);
        });
        holds("WATER as it is now;", () -> {
            WaterStair x = stair("level 0 1;level 0 1;lag 20;barge 5 0 0 3");
            x.rain(0, 18);
            due("too little for weight 1", x.seasons(1, 99, 0), 0);
            x.rain(0, 1);
            due("just enough", x.seasons(1, 99, 0), 1);
            due("for each season", x.seasons(1, 99, 1), 19);
            x = stair("level 19 1;level 0 1;lag 20;barge 5 0 0 3");
            x.tip(0, 0, NONE);
            due("what is left", x.level(0, 0), 4);
            due("too little now", x.seasons(1, 99, 0), 0);
        });
        holds("all together (nothing stays; x as it was).", () -> {
            WaterStair x = stair(THREE);
            x.seed(FAR);
            x.tip(0, 0, NONE);
            String before = all(x);
            int home = x.seasons(20, 99, 0);
            int water = x.seasons(20, 99, 1);
            stays(x, before);
            due("home again", x.seasons(20, 99, 0), home);
            due("water again", x.seasons(20, 99, 1), water);
            x = stair(one);
            x.seed(FAR);
            due("the first", x.seasons(1, 1, 1), 21);
            due("and the second: 26718 is even, down", x.seasons(2, 1, 1), 21 + 19);
        });
    }

    private void seasons() {
        holds("what 0: HOME, 1: WATER;", () -> {
            WaterStair x = stair("level 9 1;level 9 1");
            due("no barges", x.seasons(20, 99, 0), 0);
            due("no barges", x.seasons(20, 99, 1), 0);
            x = stair("level 999 8;level 999 8" + ";barge 1 0 0 0".repeat(6));
            due("all barges of all seasons", x.seasons(20, 1, 0), 120);
        });
        holds("NONE without these, or a STAIR.", () -> {
            WaterStair x = stair(TWO);
            due("m -1", x.seasons(-1, 1, 0), NONE);
            due("m 0", x.seasons(0, 1, 0), NONE);
            due("m 21", x.seasons(21, 1, 0), NONE);
            due("m far", x.seasons(FAR, 1, 0), NONE);
            due("w -1", x.seasons(1, -1, 0), NONE);
            due("w far", x.seasons(1, FAR, 0), NONE);
            due("what -1", x.seasons(1, 1, -1), NONE);
            due("what 2", x.seasons(1, 1, 2), NONE);
            due("no stair", new WaterStair().seasons(1, 1, 0), NONE);
            due("no stair", new WaterStair().seasons(20, 99, 1), NONE);
        });
    }

    // ---------------------------------------------------------------- counts and images

    private void count() {
        holds("4: WATER of all LEVELS,", () -> {
            WaterStair x = stair("level 999 1" + ";level 999 1".repeat(7));
            due("as told", x.count(4), 7992);
            for (int level = 0; level < 8; level++) {
                x.rain(level, 9999);
            }
            due("with all the rain", x.count(4), 79992);
            due("none", stair("level 0 1;level 0 1").count(4), 0);
        });
        holds("7: the RULE IN FORCE (NONE),", () -> {
            WaterStair x = new WaterStair();
            due("none", x.count(7), NONE);
            force(x, "bar 1=1");
            due("0", x.count(7), 0);
            x.force(NONE);
            due("none", x.count(7), NONE);
        });
        holds("9: TIPS in the BOOK, 10: LEVELS SEEN, 11: x, 12: bytes of the TAPE.", () -> {
            WaterStair x = stair("level 9 1" + ";level 9 1".repeat(7) + ";barge 9 0 0 0");
            for (int i = 0; i < 10; i++) {
                x.book(0, 0, NONE);
            }
            for (int level = 0; level < 8; level++) {
                x.seen(level, 0);
            }
            x.seed(FAR);
            tell(x, " ".repeat(400));
            due("book", x.count(9), 10);
            due("seen", x.count(10), 8);
            due("x", x.count(11), FAR);
            due("bytes", x.count(12), 400);
        });
        holds("NONE for others.", () -> {
            WaterStair x = stair(TWO);
            for (int what : new int[] {-1, 13, FAR, DEEP}) {
                due("count(" + what + ")", x.count(what), NONE);
                due("new: count(" + what + ")", new WaterStair().count(what), NONE);
            }
        });
    }

    private void image() {
        holds("An IMAGE is made: TIPS that were done;", () -> {
            WaterStair x = new WaterStair();
            due("without a stair", x.image(0), 0);
            tell(x, THREE);
            x.stair();
            due("none", x.image(0), 0);
            x.tip(0, 2, NONE);
            due("a wide one counts 2", x.image(0), 2);
            due("again in its place", x.back(0), 2);
        });
        holds("NONE without it.", () -> {
            WaterStair x = stair(TWO);
            for (int k : new int[] {-1, 4, FAR, DEEP}) {
                due("image " + k, x.image(k), NONE);
                due("back " + k, x.back(k), NONE);
            }
        });
    }

    private void back() {
        holds("All is as in an IMAGE (the RULE IN FORCE, too): TIPS that were done;", () -> {
            WaterStair x = stair(THREE + ";broken 1");
            tell(x, "bar 0=1");
            x.rule();
            tell(x, "bar tips=9");
            x.rule();
            x.force(1);
            x.tip(0, 2, NONE);
            x.rain(0, 7);
            x.seen(0, 27);
            x.book(0, NONE, 1);
            x.seed(11);
            String before = all(x);
            x.image(2);
            x.force(0);
            x.chain(1, true);
            x.run(200);
            x.rain(1, 9999);
            x.seen(0, -1);
            x.seen(1, 0);
            x.book(NONE, 0, 0);
            x.seed(12);
            due("back", x.back(2), 2);
            stays(x, before);
            due("what was seen", x.smuggled(0), 0);
            x.seen(0, 18);
            due("the book", x.smuggled(2), 1);
            tell(x, "level 1 1;level 1 1;barge 1 1 1 1;barge 2 1 1 2;barge 3 0 1 3");
            x.stair();
            due("back", x.back(2), 2);
            stays(x, before);
        });
        holds("NONE, and nothing happens, if it was never made,", () -> {
            WaterStair x = stair(TWO);
            x.run(1);
            x.image(1);
            x.seed(4);
            String before = all(x);
            due("0", x.back(0), NONE);
            due("2", x.back(2), NONE);
            due("3", x.back(3), NONE);
            stays(x, before);
            due("1", x.back(1), 1);
        });
        holds("or without it.", () -> {
            WaterStair x = stair(TWO);
            x.image(0);
            x.image(3);
            x.run(1);
            String before = all(x);
            due("-1", x.back(-1), NONE);
            due("4", x.back(4), NONE);
            due("far", x.back(FAR), NONE);
            stays(x, before);
        });
    }

    private void images() {
        holds("IMAGES 0 to 3:", () -> {
            WaterStair x = stair("level 9 8;level 9 8" + ";barge 9 0 0 0".repeat(4));
            for (int k = 0; k <= 3; k++) {
                due("image " + k, x.image(k), k);
                x.run(1);
            }
            for (int k = 3; k >= 0; k--) {
                due("back " + k, x.back(k), k);
                due("home", x.count(2), k);
            }
        });
        holds("all but the TAPE and the RULES, as it is;", () -> {
            WaterStair x = stair(TWO);
            tell(x, "12345");
            x.image(0);
            force(x, "bar 1=1");
            tell(x, "bar 1=1");
            due("back", x.back(0), 0);
            due("bytes", x.count(12), 7);
            due("rules", x.count(6), 1);
            due("none in force", x.count(7), NONE);
            due("the tape is as it is", x.rule(), 1);
        });
        holds("gone back to, it is as it was (these stay).", () -> {
            WaterStair x = stair(TWO);
            x.image(0);
            x.run(1);
            due("home", x.back(0) + x.count(2), 0);
            x.rain(0, 100);
            due("once more", x.back(0), 0);
            due("the image did not change", x.level(0, 0), 9);
            tell(x, " ".repeat(20));
            x.back(0);
            due("bytes", x.count(12), 20);
        });
    }
}
