/** For each promise of the document: ordinary calls, the edges that it names, and wrong inputs. */
public final class PromiseTest {
    private static final int NONE = WaterStair.NONE;
    private static final String THREE =
            "level 20 1;level 10 2;level 5 1;lag 2;barge 10 0 0 7;barge 6 0 1 5;barge 8 1 0 9";
    // what two barges can do at one step
    private static final String TWO = "level 9 1;level 4 1;lag 1;barge 5 0 0 3;barge 3 0 1 4";
    private static int wrong = 0;
    private static int asked = 0;

    public static void main(String[] args) {
        newObject();
        feed();
        end();
        stair();
        stairFaults();
        rule();
        ruleFaults();
        ruleWords();
        force();
        level();
        barge();
        tip();
        tipLaws();
        may();
        rain();
        chain();
        run();
        would();
        can();
        plan();
        row();
        lessLater();
        unknown();
        drought();
        passAndWorst();
        seen();
        went();
        book();
        smuggled();
        seed();
        seasons();
        count();
        images();
        System.out.println(asked + " answers, " + wrong + " not as due");
        if (wrong != 0) {
            System.exit(1);
        }
    }

    private static void due(String call, int got, int want) {
        asked++;
        if (got != want) {
            wrong++;
            System.out.println(call + " answered " + got + ", due is " + want);
        }
    }

    private static void due(String call, boolean got, boolean want) {
        due(call, got ? 1 : 0, want ? 1 : 0);
    }

    private static void text(WaterStair x, String text) {
        x.end(0);
        for (int from = 0; from < text.length(); from += 20) {
            int[] five = new int[5];
            for (int i = 0; i < 20; i++) {
                int sign = from + i < text.length() ? text.charAt(from + i) : 0;
                five[i / 4] = five[i / 4] << 8 | sign;
            }
            x.feed(five[0], five[1], five[2], five[3], five[4]);
        }
        due("end of " + text, x.end(text.length()), text.length());
    }

    private static WaterStair of(String stair) {
        WaterStair x = new WaterStair();
        text(x, stair);
        x.stair();
        return x;
    }

    private static void forced(WaterStair x, String rule) {
        text(x, rule);
        x.force(x.rule());
    }

    private static String times(String text, int n) {
        return text.repeat(n);
    }

    // ---------------------------------------------------------------- 1 to 3

    private static void newObject() {
        WaterStair x = new WaterStair();
        for (int what = 0; what <= 12; what++) {
            due("new: count(" + what + ")", x.count(what), what == 7 ? NONE : 0);
        }
        due("new: level", x.level(0, 0), NONE);
        due("new: barge", x.barge(0, 0), NONE);
        due("new: tip", x.tip(0, 0, NONE), NONE);
        due("new: may", x.may(0, 0, NONE), NONE);
        due("new: rain", x.rain(0, 1), NONE);
        due("new: chain", x.chain(0, false), false);
        due("new: run", x.run(1), NONE);
        due("new: would", x.would(1, 0), NONE);
        due("new: can", x.can(), NONE);
        due("new: plan", x.plan(0, true), NONE);
        due("new: row", x.row(0, true, 0, 0), NONE);
        due("new: drought", x.drought(0, 0), NONE);
        due("new: pass", x.pass(0), NONE);
        due("new: worst", x.worst(), NONE);
        due("new: seen", x.seen(0, 1), false);
        due("new: went", x.went(1, 0), NONE);
        due("new: book", x.book(0, 0, NONE), -2);
        due("new: smuggled", x.smuggled(0), NONE);
        due("new: seasons", x.seasons(1, 1, 0), NONE);
        due("new: force(0)", x.force(0), -2);
        due("new: back(0)", x.back(0), NONE);
        due("NONE", WaterStair.NONE, -1);
    }

    private static void feed() {
        WaterStair x = new WaterStair();
        // "level 1 1;level 2 2;" and then "level 3 3"
        due("feed", x.feed(0x6c657665, 0x6c203120, 0x313b6c65, 0x76656c20, 0x3220323b), 20);
        due("feed", x.feed(0x6c657665, 0x6c203320, 0x33ffffff, -1, Integer.MIN_VALUE), 40);
        due("end", x.end(29), 29);
        due("stair", x.stair(), 3);
        due("water of level 2", x.level(2, 0), 3);
        for (int i = 1; i <= 20; i++) {
            due("feed " + i, x.feed(0, 0, 0, 0, 0), 20 * i);
        }
        due("feed 21", x.feed(1, 2, 3, 4, 5), NONE);
        due("bytes", x.count(12), 400);
        due("end(381)", x.end(381), 381);
        due("feed beyond 400", x.feed(1, 2, 3, 4, 5), NONE);
        due("bytes", x.count(12), 381);
        due("end(380)", x.end(380), 380);
        due("feed to 400", x.feed(1, 2, 3, 4, 5), 400);
    }

    private static void end() {
        WaterStair x = new WaterStair();
        due("end(1) of none", x.end(1), NONE);
        due("end(0) of none", x.end(0), 0);
        x.feed(0, 0, 0, 0, 0);
        due("end(21)", x.end(21), NONE);
        due("end(-1)", x.end(-1), NONE);
        due("bytes", x.count(12), 20);
        due("end(20)", x.end(20), 20);
        due("end(7)", x.end(7), 7);
        due("bytes", x.count(12), 7);
        due("feed behind 7", x.feed(0, 0, 0, 0, 0), 27);
    }

    // ---------------------------------------------------------------- 4

    private static void stair() {
        WaterStair x = of(THREE);
        due("levels", x.count(0), 3);
        due("the tape is empty", x.count(12), 0);
        x.tip(0, 0, NONE);
        x.tip(0, NONE, 1);
        x.seen(0, 1);
        x.book(0, 0, NONE);
        x.seed(77);
        forced(x, "bar 1 = 1");
        text(x, "level 1 9");
        due("a wrong stair", x.stair(), -2 - (1 + 8 * 8 + 1));
        due("all stays: levels", x.count(0), 3);
        due("all stays: tips", x.count(3), 1);
        due("all stays: seen", x.count(10), 1);
        due("all stays: book", x.count(9), 1);
        due("all stays: barge 0", x.barge(0, 0), 1);
        text(x, "  lag 7 ; level999 8;level 0 1 ;broken 0; barge 99 1 1 999;barge 1 0 0 0; broken 00000 ");
        due("another stair", x.stair(), 2);
        due("its tips", x.count(3), 0);
        due("its water poured", x.count(5), 0);
        due("nothing seen", x.count(10), 0);
        due("an empty book", x.count(9), 0);
        due("the rule in force stays", x.count(7), 0);
        due("x stays", x.count(11), 77);
        due("lag", x.count(8), 7);
        due("water 0", x.level(0, 0), 999);
        due("seats 0", x.level(0, 1), 8);
        due("chain 0", x.level(0, 3), 0);
        due("barge 0 is at the last level", x.barge(0, 0), 1);
        due("barge 1 is at the first level", x.barge(1, 0), 0);
        x = of("level 1 1;level 1 1;level 1 1;level 1 1;level 1 1;level 1 1;level 1 1;level 1 1;"
                + "barge 1 0 0 0;barge 1 0 0 0;barge 1 0 0 0;barge 1 0 0 0;barge 1 0 0 0;barge 1 0 0 0");
        due("eight levels", x.count(0), 8);
        due("six barges", x.count(1), 6);
        due("no lag", x.count(8), 0);
    }

    private static void stairFault(String text, int place, int kind) {
        WaterStair x = new WaterStair();
        text(x, text);
        due("stair " + text, x.stair(), -2 - (1 + 8 * place + kind));
        due("no stair by " + text, x.count(0), 0);
    }

    private static void stairFaults() {
        String two = "level 5 1;level 5 1;";
        String seven = times("barge 1 0 0 1;", 7);
        stairFault("", 0, 0);
        stairFault("   ", 3, 0);
        stairFault("level", 5, 0);
        stairFault("level 5", 7, 0);
        stairFault("level 5 1", 9, 0);
        stairFault("level 5 1  ", 11, 0);
        stairFault("level 5 1;", 10, 0);
        stairFault("level 1000 1", 6, 1);
        stairFault("level 000001 1", 6, 1);
        stairFault("level 5 0", 8, 1);
        stairFault("level 5 9", 8, 1);
        stairFault("level 5 1 1", 10, 0);
        stairFault("level 5 1 111111", 10, 0);
        stairFault("level 5 -1", 8, 0);
        stairFault("levels 5 1", 0, 0);
        stairFault("Level 5 1", 0, 0);
        stairFault("level x 1", 6, 0);
        stairFault("level 5\t1", 7, 0);
        stairFault("level 5 1;level 5 1" + (char) 233, 19, 0);
        stairFault("level 5 1;level 5 1" + (char) 0, 19, 0);
        stairFault("12", 0, 0);
        stairFault(";", 0, 0);
        stairFault("barge 1 0 0 1", 0, 4);
        stairFault("broken 0", 0, 4);
        stairFault("level 5 1;barge 1 0 0 1", 10, 4);
        stairFault("level 5 1;broken 0", 10, 4);
        stairFault("lag 21", 4, 1);
        stairFault("lag 1", 5, 0);
        stairFault("lag 1;lag 1", 6, 4);
        stairFault(two + "barge 0 0 0 1", 26, 1);
        stairFault(two + "barge 100 0 0 1", 26, 1);
        stairFault(two + "barge 1 2 0 1", 28, 1);
        stairFault(two + "barge 1 0 2 1", 30, 1);
        stairFault(two + "barge 1 0 0 1000", 32, 1);
        stairFault(two + "broken 1", 27, 1);
        stairFault(two + "broken 0;level 5 1", 29, 4);
        stairFault(two + "barge 1 0 0 1;level 5 1", 34, 4);
        stairFault(times("level 5 1;", 9), 80, 4);
        stairFault(two + seven, 20 + 6 * 14, 4);
        String most = two + times("broken 0;", 30);
        stairFault(most, most.length(), 0);
        stairFault(most + "broken 0", most.length(), 4);
        stairFault(most + "broke 0", most.length(), 0);
        due("32 clauses", of(most.substring(0, most.length() - 1)).count(0), 2);
    }

    // ---------------------------------------------------------------- 5 and 6

    private static void rule() {
        WaterStair x = new WaterStair();
        for (int i = 0; i < 6; i++) {
            text(x, "bar step = " + i);
            due("rule " + i, x.rule(), i);
            due("the tape is empty", x.count(12), 0);
        }
        text(x, "bar");
        due("a seventh rule", x.rule(), NONE);
        due("the tape stays", x.count(12), 3);
        due("rules", x.count(6), 6);
    }

    private static void ruleFault(String text, int place, int kind) {
        WaterStair x = new WaterStair();
        text(x, text);
        due("rule " + text, x.rule(), -2 - (1 + 8 * place + kind));
        due("no rule by " + text, x.count(6), 0);
    }

    private static void ruleOk(String text) {
        WaterStair x = new WaterStair();
        text(x, text);
        due("rule " + text, x.rule(), 0);
    }

    private static void ruleFaults() {
        ruleFault("", 0, 0);
        ruleFault("bar", 3, 0);
        ruleFault("bar 1", 5, 0);
        ruleFault("bars 1", 0, 0);
        ruleFault("barz 1 = 1", 0, 0);
        ruleFault("bar{1 = 1", 3, 0);
        ruleFault("bar x", 4, 0);
        ruleFault("bar 1 = ", 8, 0);
        ruleFault("bar need = 1;", 13, 0);
        ruleFault("bar need = 1]", 12, 0);
        ruleFault("bar need = 1 1", 13, 0);
        ruleFault("bar [need = 1", 13, 0);
        ruleFault("bar [need] = 1", 9, 0);
        ruleFault("bar need < = 1", 11, 0);
        ruleFault("bar need == 1", 10, 0);
        ruleFault("bar need => 1", 10, 0);
        ruleFault("bar 1 = 1 and", 13, 0);
        ruleFault("bar 1 = 1 andneed = 1", 10, 0);
        ruleFault("bar 1 = 1 = 1", 10, 0);
        ruleFault("bar 1 + not 1 = 1", 8, 0);
        ruleFault("bar -1 = 1", 4, 0);
        ruleFault("bar 100000 = 1", 4, 1);
        ruleFault("bar 1 = 000000", 8, 1);
        ruleOk("bar 99999=00000");
        ruleOk(" bar1=1and need<=2or not[ 3>=step ] ");
        ruleOk("bar " + times("not ", 10) + "1 = 1");
        ruleFault("bar " + times("not ", 11) + "1 = 1", 4 + 40, 2);
        ruleOk("bar " + times("[", 10) + "1=1" + times("]", 10));
        ruleFault("bar " + times("[", 11) + "1=1" + times("]", 11), 14, 2);
        ruleFault("bar " + times("not[", 5) + "1=1 and not 1=1", 4 + 20 + 8, 2);
        ruleOk("bar " + times("not[", 5) + "1=1" + times("]", 5) + " and not [ 1=1 ] and not 1 = 1");
        // 59 values and a sign are 60; one value more, then one sign more
        ruleOk("bar " + times("1+", 57) + "1=1");
        ruleFault("bar " + times("1+", 58) + "1=1", 4 + 118, 3);
        ruleFault("bar " + times("1+", 59) + "1=1", 4 + 119, 3);
        ruleFault("bar " + times("1+", 60) + "1=1", 4 + 120, 3);
        ruleFault("bar " + times("1+", 60) + "111111=1", 4 + 120, 1);
        ruleFault("bar " + times("1+", 60) + "x=1", 4 + 120, 0);
        ruleFault("bar " + times("1+", 28) + "1=1;bar " + times("1+", 29) + "1=1", 4 + 56 + 3 + 5 + 58, 3);
        // what stood behind the end is no part of the text
        WaterStair x = new WaterStair();
        text(x, "bar 1<=1");
        x.end(6);
        due("bar 1<", x.rule(), -2 - (1 + 8 * 6));
        text(x, "bar 1=step");
        x.end(9);
        due("bar 1=ste", x.rule(), -2 - (1 + 8 * 6));
        text(x, "bar 1=112345");
        x.end(7);
        due("bar 1=1", x.rule(), 0);
        String twelve = times("bar 1=1;", 12);
        ruleOk(twelve.substring(0, twelve.length() - 1));
        ruleFault(twelve + "bar 1=1", 96, 4);
        ruleFault(twelve + "ban 1=1", 96, 0);
        ruleFault(twelve, 96, 0);
    }

    /** Whether a rule bars barge 2, the wide one, from going down at step 0 while barge 0 is at level 1. */
    private static void bars(String test, boolean isBarred) {
        WaterStair x = of(THREE);
        x.tip(0, 0, NONE);
        forced(x, "bar " + test);
        due(test, x.may(0, 2, NONE), isBarred ? -7 : 0);
    }

    private static void ruleWords() {
        bars("step = 0", true);
        bars("down = 8 and up = 0", true);
        bars("need = 0 and water = 20 and below = 10", true);
        bars("here = 1 and there = 1", true);
        bars("wide = 1", true);
        bars("tips = 1", true);
        bars("tips < 1", false);
        bars("tips >= 1 and not tips > 1", true);
    }

    // ---------------------------------------------------------------- 6

    private static void force() {
        WaterStair x = of(TWO);
        text(x, "bar 7/2=3 and 0-7/2=0-3 and 7/0=0 and 2+3*4=14 and 10-3-2=5 and 12/3/2=2");
        due("rule 0", x.rule(), 0);
        text(x, "bar 0 = 1 and 1 = 1 or 1 = 1");
        due("rule 1", x.rule(), 1);
        text(x, "bar 1 = 1 or 1 = 1 and 0 = 1");
        due("rule 2", x.rule(), 2);
        text(x, "bar [1 = 1 or 1 = 1] and 0 = 1;bar not not 1 > 1; bar not 1 < 2");
        due("rule 3", x.rule(), 3);
        // 99999 * 99999 * 99999 * 99999 goes round in 64 bits
        text(x, "bar 99999*99999*99999*99999/99999/99999 < 9999800001");
        due("rule 4", x.rule(), -2 - (1 + 8 * 42 + 1));
        text(x, "bar 99999*99999*99999*99999/99999 < 99999*99999*99999");
        due("rule 4", x.rule(), 4);
        due("may", x.may(0, 0, 1), 0);
        due("force(0)", x.force(0), NONE);
        due("in force", x.count(7), 0);
        due("may by rule 0", x.may(0, 0, 1), -7);
        due("force(1)", x.force(1), 0);
        due("may by rule 1", x.may(0, 0, 1), -7);
        due("force(2)", x.force(2), 1);
        due("may by rule 2", x.may(0, 0, 1), -7);
        due("force(3)", x.force(3), 2);
        due("may by rule 3", x.may(0, 0, 1), 0);
        due("force(4)", x.force(4), 3);
        due("may by rule 4", x.may(0, 0, 1), -7);
        due("force(5)", x.force(5), -2);
        due("force(-2)", x.force(-2), -2);
        due("in force", x.count(7), 4);
        due("force(NONE)", x.force(NONE), 4);
        due("may", x.may(0, 0, 1), 0);
    }

    // ---------------------------------------------------------------- 7 and 8

    private static void level() {
        WaterStair x = of(THREE + ";broken 1");
        due("water", x.level(0, 0), 20);
        due("seats", x.level(1, 1), 2);
        due("barges at level 0", x.level(0, 2), 5);
        due("barges at level 1", x.level(1, 2), 0);
        due("barges at level 2", x.level(2, 2), 2);
        due("chain 0", x.level(0, 3), 1);
        due("chain 1", x.level(1, 3), 0);
        due("chain at the last level", x.level(2, 3), NONE);
        due("what 4", x.level(0, 4), NONE);
        due("what -1", x.level(0, -1), NONE);
        due("level 3", x.level(3, 0), NONE);
        due("level -1", x.level(-1, 0), NONE);
    }

    private static void barge() {
        WaterStair x = of(THREE);
        int[] wanted = {0, 8, 1, 0, 9, 0};
        for (int what = 0; what < 6; what++) {
            due("barge(2, " + what + ")", x.barge(2, what), wanted[what]);
        }
        due("level of barge 1", x.barge(1, 0), 2);
        due("way of barge 1", x.barge(1, 3), 1);
        x.run(200);
        due("level of barge 1 at home", x.barge(1, 0), 0);
        due("barge 1 is home", x.barge(1, 5), 1);
        due("barge 2 is home", x.barge(2, 5), 1);
        due("what 6", x.barge(0, 6), NONE);
        due("what -1", x.barge(0, -1), NONE);
        due("barge 3", x.barge(3, 0), NONE);
        due("barge -1", x.barge(-1, 0), NONE);
    }

    // ---------------------------------------------------------------- 9 and 10

    private static void tip() {
        WaterStair x = of(THREE);
        due("lifted alone", x.tip(1, NONE, 1), 8);
        due("water of level 1", x.level(1, 0), 2);
        due("water of level 2", x.level(2, 0), 13);
        due("level of barge 1", x.barge(1, 0), 1);
        due("a wide one down, one up", x.tip(0, 2, 1), 0);
        due("tips", x.count(3), 3);
        due("poured", x.count(5), 8);
        due("barge 1 is home", x.barge(1, 5), 1);
        due("barge 2 goes on", x.tip(1, 2, NONE), 0);
        due("no more of barge 2", x.tip(1, 2, NONE), -4);
        due("no step", x.tip(2, 0, NONE), NONE);
        due("no step", x.tip(-1, 0, NONE), NONE);
        due("no barge", x.tip(0, 3, NONE), NONE);
        due("no barge", x.tip(0, 0, 3), NONE);
        due("no barge", x.tip(0, -2, 0), NONE);
        due("no barge", x.tip(0, 0, -2), NONE);
        due("both none", x.tip(0, NONE, NONE), NONE);
        x = of("level 99 1;level 5 1;lag 4;barge 3 1 0 0;barge 9 1 1 0;barge 5 0 1 0");
        due("both wide", x.tip(0, 0, 1), 20);
        due("counts as 2", x.count(3), 2);
        due("narrow, lifted", x.tip(0, NONE, 2), 9);
        due("counts as 1", x.count(3), 3);
        x = of("level 99 1;level 5 1;lag 4;barge 3 1 0 0;barge 9 1 1 0;barge 5 0 1 0");
        due("lag and a light one", x.tip(0, 0, NONE), 2);
    }

    private static void tipLaws() {
        WaterStair x = of("level 7 1;level 0 1;level 5 1;broken 1;barge 9 0 0 0;barge 8 0 0 0;barge 8 0 1 0");
        due("law 1 ahead of law 2", x.tip(1, 0, 0), -3);
        due("law 2: not there", x.tip(0, NONE, 2), -4);
        due("law 2: not that way", x.tip(0, 2, NONE), -4);
        due("law 2: the same", x.tip(0, 0, 0), -4);
        due("down", x.tip(0, 0, NONE), 0);
        due("law 2: it goes down", x.tip(0, NONE, 0), -4);
        due("law 3", x.tip(0, 1, NONE), -5);
        x.chain(1, true);
        due("law 3 ahead of law 4", x.tip(1, NONE, 2), -5);
        due("seats behind it", x.tip(1, 0, 2), 0);
        due("law 4", x.tip(0, NONE, 2), -6);
        forced(x, "bar water = 7");
        due("law 4 ahead of law 5", x.tip(0, NONE, 2), -6);
        due("law 5", x.tip(0, 1, 2), -7);
        x.force(NONE);
        due("seats, one up and one down", x.tip(0, 1, 2), 0);
        due("nothing happened by the others", x.count(3), 3);
        x = of("level 7 1;level 5 1;barge 9 0 0 0;barge 8 0 0 0;barge 7 0 1 0;barge 7 0 1 0");
        due("lakes are not asked", x.tip(0, 0, NONE), 0);
        due("lakes are not asked", x.tip(0, 1, NONE), 0);
        due("just enough water", x.tip(0, NONE, 2), 7);
        due("not enough", x.tip(0, NONE, 3), -6);
    }

    private static void may() {
        WaterStair x = of(THREE);
        due("may", x.may(1, NONE, 1), 8);
        due("may again", x.may(1, NONE, 1), 8);
        due("nothing happens", x.count(3) + x.count(5), 0);
        due("law 2", x.may(1, 0, 1), -4);
        due("none", x.may(2, 0, 1), NONE);
        due("none", x.may(0, NONE, NONE), NONE);
        due("none", x.may(0, 3, NONE), NONE);
    }

    // ---------------------------------------------------------------- 11 and 12

    private static void rain() {
        WaterStair x = of(TWO);
        due("rain", x.rain(0, 11), 20);
        due("rain 0", x.rain(1, 0), 4);
        due("rain -1", x.rain(1, -1), NONE);
        due("rain 10000", x.rain(1, 10000), NONE);
        due("level 2", x.rain(2, 1), NONE);
        due("level -1", x.rain(-1, 1), NONE);
        due("till 9999", x.rain(1, 9999), 9999);
        due("no more", x.rain(1, 5), 9999);
        due("lift", x.tip(0, NONE, 1), 4);
        due("it has more", x.level(1, 0), 10003);
        due("none comes", x.rain(1, 9), 10003);
        due("all water", x.count(4), 10019);
        due("rain is not poured", x.count(5), 4);
    }

    private static void chain() {
        WaterStair x = of(THREE);
        due("it is so", x.chain(0, true), false);
        due("it breaks", x.chain(0, false), true);
        due("it is so", x.chain(0, false), false);
        due("level", x.level(0, 3), 0);
        due("law 1", x.may(0, 0, NONE), -3);
        due("it is mended", x.chain(0, true), true);
        due("it may be", x.may(0, 0, NONE), 0);
        due("no step", x.chain(2, false), false);
        due("no step", x.chain(-1, false), false);
    }

    // ---------------------------------------------------------------- 13 to 15

    private static void run() {
        WaterStair x = of(THREE);
        due("run(0)", x.run(0), 0);
        due("run(-1)", x.run(-1), NONE);
        due("run(201)", x.run(201), NONE);
        due("run(1)", x.run(1), 1);
        due("barge 0 first", x.barge(0, 0), 1);
        due("run(1)", x.run(1), 1);
        due("barge 2 then, by steps", x.barge(2, 0), 1);
        due("run(1)", x.run(1), 1);
        due("barge 0 down and 1 up, none behind all", x.barge(0, 0) + 10 * x.barge(1, 0), 12);
        due("run(200)", x.run(200), 2);
        due("all home", x.count(2), 3);
        due("tips as they count", x.count(3), 7);
        due("poured", x.count(5), 8);
        due("run(200)", x.run(200), 0);
    }

    private static void would() {
        WaterStair x = of(THREE);
        int[] wanted = {5, 3, 8, 0};
        for (int what = 0; what < 4; what++) {
            due("would(200, " + what + ")", x.would(200, what), wanted[what]);
        }
        due("would(3, 0)", x.would(3, 0), 3);
        due("would(3, 1)", x.would(3, 1), 1);
        due("would(4, 2)", x.would(4, 2), 8);
        due("would(0, 0)", x.would(0, 0), 0);
        due("would(0, 3)", x.would(0, 3), 0);
        due("nothing happens", x.count(3) + x.count(5), 0);
        x.tip(1, NONE, 1);
        due("poured in the run alone", x.would(200, 2), 0);
        due("what 4", x.would(1, 4), NONE);
        due("what -1", x.would(1, -1), NONE);
        due("n 201", x.would(201, 0), NONE);
        due("n -1", x.would(-1, 0), NONE);
        x.chain(1, false);
        due("stuck", x.would(200, 3), 1);
        due("not stuck yet", x.would(0, 3), 0);
        x.chain(0, false);
        due("stuck now", x.would(0, 3), 1);
        due("no barges are not stuck", of("level 1 1;level 1 1").would(200, 3), 0);
        x = of(TWO);
        x.run(200);
        due("home is not stuck", x.would(0, 3), 0);
        x = of("level 9 1;level 4 1;barge 5 0 0 3;barge 5 0 0 3;barge 5 1 0 3");
        forced(x, "bar tips > 1");
        due("tips goes on in a run", x.would(200, 0), 2);
    }

    private static void can() {
        WaterStair x = of(THREE);
        due("can", x.can(), 3);
        due("none without barges", of("level 1 1;level 1 1").can(), 0);
        x = of(TWO);
        due("can", x.can(), 3);
        x.chain(0, false);
        due("can with a broken chain", x.can(), 0);
        x = of("level 99 1;level 4 1;barge 5 0 0 3;barge 5 0 0 3;barge 5 0 0 3;barge 5 0 1 3;barge 5 0 1 3;barge 5 0 1 3");
        due("the most", x.can(), 15);
    }

    // ---------------------------------------------------------------- 16 to 18

    private static void plan() {
        WaterStair x = of(THREE);
        due("by tips", x.plan(7, false), 6);
        due("by water", x.plan(7, true), 0);
        due("barge 1 alone, by tips", x.plan(2, false), 2);
        due("barge 2 alone counts twice", x.plan(4, false), 4);
        due("none of them", x.plan(0, false), 0);
        due("set 8", x.plan(8, false), NONE);
        due("set -1", x.plan(-1, true), NONE);
        x.chain(1, false);
        due("it can't be", x.plan(1, false), -2);
        due("none of them still", x.plan(0, true), 0);
        x.chain(1, true);
        due("by tips", x.plan(7, false), 6);
        due("nothing happens", x.count(3), 0);
        x.run(200);
        due("all are home", x.plan(7, false), 0);
        x = of("level 50 1;level 4 1;lag 3;barge 2 0 0 0;barge 20 0 0 0;barge 10 0 1 0");
        due("by tips", x.plan(7, false), 2);
        due("by water", x.plan(7, true), 1);
        forced(x, "bar tips > 0");
        due("tips is as it is now in each", x.plan(7, false), 2);
        x.tip(0, 0, NONE);
        due("barred now", x.plan(7, false), -2);
        x.force(NONE);
        due("not barred", x.plan(7, false), 1);
        x.rain(0, 1);
        due("no barges", of("level 1 1;level 1 1").plan(0, false), 0);
        due("no barges", of("level 1 1;level 1 1").plan(1, false), NONE);
    }

    private static void rowOf(WaterStair x, int set, boolean byWater, int... wanted) {
        for (int i = 0; i < wanted.length; i++) {
            due("row " + set + " " + byWater + " " + i, x.row(set, byWater, i / 3, i % 3), wanted[i]);
        }
        due("row has not so many", x.row(set, byWater, wanted.length / 3, 0), -2);
    }

    private static void row() {
        WaterStair x = of(TWO);
        rowOf(x, 3, false, 0, 0, 1);
        rowOf(x, 1, false, 0, 0, 1);
        rowOf(x, 0, false);
        due("what 3", x.row(3, false, 0, 3), NONE);
        due("what -1", x.row(3, false, 0, -1), NONE);
        due("k -1", x.row(3, false, -1, 0), NONE);
        due("set 4", x.row(4, false, 0, 0), NONE);
        due("set -1", x.row(-1, false, 0, 0), NONE);
        due("k far", x.row(3, false, Integer.MAX_VALUE, 0), -2);
        x.chain(0, false);
        due("no plan", x.row(3, false, 0, 0), -2);
        x = of("level 50 1;level 4 1;lag 3;barge 2 0 0 0;barge 20 0 0 0;barge 10 0 1 0");
        rowOf(x, 7, false, 0, 0, 2, 0, 1, NONE);
        rowOf(x, 7, true, 0, 1, 2, 0, 0, NONE);
        rowOf(x, 7, false, 0, 0, 2, 0, 1, NONE);
        x.tip(0, NONE, 2);
        rowOf(x, 3, true, 0, 1, NONE, 0, 0, NONE);
    }

    /** A situation that is had with less by a way that is found later: both pour 4 tons, but one counts 3, not 4. */
    private static void lessLater() {
        WaterStair x = of("level 100 1;level 4 1;barge 10 1 0 0;barge 11 0 0 0;barge 11 0 1 0;barge 12 1 1 0");
        forced(x, "bar down = 11 and up = 11 and water = 100");
        due("with less now", x.plan(15, false), 3);
        rowOf(x, 15, false, 0, 0, 3, 0, 1, 2);
    }

    private static void unknown() {
        WaterStair x = of("level 999 8;level 999 8;level 999 8;level 999 8;level 999 8;level 999 8;level 999 8;"
                + "level 999 8;lag 3;barge 1 0 0 1;barge 2 0 0 2;barge 4 0 0 4;barge 8 0 1 8;barge 16 0 1 16;"
                + "barge 32 0 1 32");
        due("unknown", x.plan(63, false), -3);
        due("unknown", x.row(63, false, 0, 0), -3);
        due("unknown by water", x.plan(63, true), -3);
        due("none of them", x.plan(0, false), 0);
        due("unknown counts as what can't be", x.drought(999, 1) == 63, false);
        String down = "level 9 8;level 9 8;level 9 8;level 9 8;level 9 8;level 9 8;level 9 8;level 9 8;"
                + "barge 9 0 0 1;barge 9 0 0 1;barge 9 0 0 1";
        due("8 * 8 * 8 are not too many", of(down).plan(7, false), 21);
        x = of(down + ";barge 9 0 0 1");
        due("8 * 8 * 8 * 8 are too many", x.plan(15, false), -3);
        due("but not for one", x.plan(8, false), 7);
        // barge 0 never comes home, so that all situations come: how many was counted by another program
        situations(1500, 2, "level 37 1;level 5 3;level 34 1;level 26 2;lag 2;barge 33 1 0 1;barge 2 0 1 1;"
                + "barge 3 1 0 1;barge 4 0 1 1;barge 8 1 0 1");
        situations(1500, 4, "level 35 4;level 26 2;level 14 1;level 36 3;level 47 4;level 18 1;lag 0;barge 33 0 0 1;"
                + "barge 16 0 0 1;barge 11 1 1 1;barge 16 0 1 1");
        situations(1501, 3, "level 28 1;level 58 3;level 50 1;level 7 1;level 59 4;lag 0;barge 33 0 0 1;barge 6 1 1 1;"
                + "barge 18 0 1 1;barge 7 1 0 1;barge 11 1 0 1");
        situations(1501, 2, "level 42 3;level 26 1;level 35 2;level 32 2;lag 1;barge 33 1 0 1;barge 19 0 0 1;"
                + "barge 19 0 0 1;barge 19 0 0 1;barge 20 0 1 1");
    }

    private static void situations(int n, int lastStep, String stair) {
        WaterStair x = of(stair);
        forced(x, "bar step = " + lastStep + " and down = 33");
        due(n + " situations, by tips", x.plan(1, false), n > 1500 ? -3 : -2);
        due(n + " situations, by water", x.plan(1, true), n > 1500 ? -3 : -2);
    }

    private static void drought() {
        // barge 0 goes down for 0, 1 and 2 are lifted for 6 and 5 tons, less 5 with barge 0
        WaterStair x = of("level 50 1;level 4 1;barge 5 0 0 3;barge 6 0 1 10;barge 5 0 1 10");
        due("no water: toll", x.drought(0, 0), 13);
        due("no water: set", x.drought(0, 1), 5);
        due("1 ton: of several the least as bits", x.drought(1, 1), 3);
        due("4 tons", x.drought(4, 1), 3);
        due("5 tons", x.drought(5, 1), 3);
        due("6 tons: toll", x.drought(6, 0), 23);
        due("6 tons: set", x.drought(6, 1), 7);
        due("999 tons", x.drought(999, 0), 23);
        due("nothing happens", x.level(0, 0), 50);
        due("the plan is of the water there is", x.plan(7, false), 2);
        due("what 2", x.drought(1, 2), NONE);
        due("what -1", x.drought(1, -1), NONE);
        due("tons -1", x.drought(-1, 0), NONE);
        due("tons 1000", x.drought(1000, 0), NONE);
        x = of("level 50 1;level 4 1;barge 5 0 0 0;barge 6 0 1 4;barge 5 0 1 0");
        due("fewest barges", x.drought(50, 1), 2);
        x = of("level 50 1;level 4 1;barge 5 0 1 2;barge 5 0 1 2;barge 10 0 1 4");
        due("fewest barges, though more as bits", x.drought(10, 1), 4);
        due("the least as bits", x.drought(5, 1), 1);
        x = of("level 50 1;level 4 1;barge 5 0 1 3;barge 5 0 1 4;barge 6 0 1 3");
        due("more toll by 1", x.drought(5, 1), 2);
        due("no toll", of("level 1 1;level 1 1;barge 5 0 0 0").drought(9, 1), 0);
        due("no barges", of("level 1 1;level 1 1").drought(9, 0), 0);
    }

    // ---------------------------------------------------------------- 19 and 20

    private static void passAndWorst() {
        WaterStair x = of(THREE);
        due("pass(0)", x.pass(0), 3);
        due("pass(1)", x.pass(1), 3);
        due("worst, the least of several", x.worst(), 0);
        x.tip(0, 0, NONE);
        due("pass(0)", x.pass(0), 2);
        due("pass(1)", x.pass(1), 3);
        due("worst", x.worst(), 1);
        x.tip(1, 0, 1);
        due("pass(0)", x.pass(0), 2);
        due("pass(1)", x.pass(1), 1);
        due("worst", x.worst(), 0);
        x.run(200);
        due("all home", x.pass(0) + x.pass(1), 0);
        due("worst of none", x.worst(), 0);
        due("pass(2)", x.pass(2), NONE);
        due("pass(-1)", x.pass(-1), NONE);
    }

    // ---------------------------------------------------------------- 21 to 24

    private static void seen() {
        WaterStair x = of(THREE);
        due("seen", x.seen(0, 0), true);
        due("seen", x.seen(2, 9999), true);
        due("seen again", x.seen(2, 5), true);
        due("levels seen", x.count(10), 2);
        due("tons 10000", x.seen(1, 10000), false);
        due("tons -2", x.seen(1, -2), false);
        due("level 3", x.seen(3, 1), false);
        due("level -1", x.seen(-1, 1), false);
        due("levels seen", x.count(10), 2);
        due("not seen", x.seen(0, -1), true);
        due("not seen already", x.seen(0, -1), true);
        due("levels seen", x.count(10), 1);
    }

    private static void went() {
        WaterStair x = of(THREE);
        due("all rows of one", x.went(1, 0), 3);
        due("all rows of two", x.went(2, 0), 4 + 4 + 5);
        x.seen(1, 2);
        due("rows of one", x.went(1, 0), 1);
        due("step", x.went(1, 1), 1);
        due("down", x.went(1, 2), NONE);
        due("up", x.went(1, 3), 1);
        due("beyond its tips", x.went(1, 4), NONE);
        due("second step", x.went(2, 4), 1);
        due("second down", x.went(2, 5), NONE);
        due("second up", x.went(2, 6), 1);
        due("first step", x.went(2, 1), 0);
        due("first down", x.went(2, 2), 0);
        due("first up", x.went(2, 3), NONE);
        due("what 10", x.went(3, 10), NONE);
        due("what -1", x.went(3, -1), NONE);
        due("n 0", x.went(0, 0), NONE);
        due("n 4", x.went(4, 0), NONE);
        x.seen(0, 1);
        due("none", x.went(3, 0), 0);
        due("none", x.went(3, 9), -2);
        due("nothing happens", x.count(3), 0);
        x = of("level 9 1;level 4 1;barge 5 0 0 3;barge 5 0 0 3;barge 5 0 0 3");
        due("three of three", x.went(3, 0), 6);
        due("the last of the first", x.went(3, 8), 2);
        forced(x, "bar tips = 2");
        due("tips goes on", x.went(3, 0), 0);
        due("tips goes on", x.went(2, 0), 6);
    }

    private static void book() {
        WaterStair x = of(THREE);
        due("book", x.book(0, 0, 1), 1);
        due("whether it may be or not", x.book(1, NONE, 2), 2);
        due("step 2", x.book(2, 0, 1), -2);
        due("step -2", x.book(-2, 0, 1), -2);
        due("barge 3", x.book(0, 3, 1), -2);
        due("barge 3", x.book(0, 0, 3), -2);
        due("barge -2", x.book(0, -2, 1), -2);
        due("both none", x.book(0, NONE, NONE), -2);
        due("tips in it", x.count(9), 2);
        for (int i = 3; i <= 10; i++) {
            due("book", x.book(0, 0, 0), i);
        }
        due("it has 10", x.book(0, 0, 1), -2);
        due("emptied", x.book(NONE, 7, 7), 0);
        due("empty", x.count(9), 0);
        due("again", x.book(1, 2, NONE), 1);
    }

    private static void smuggled() {
        WaterStair x = of(THREE);
        due("nothing seen: all pairs", x.smuggled(0), 60);
        due("the first barge", x.smuggled(1), 0);
        due("its e", x.smuggled(2), 1);
        // barge 1 is lifted at step 1 for 8, and at step 0 for 8
        x.book(1, NONE, 1);
        x.book(0, NONE, 1);
        x.seen(0, 9);
        due("3 more", x.smuggled(0), 1);
        due("barge", x.smuggled(1), 1);
        due("e", x.smuggled(2), 3);
        x.seen(1, 9);
        due("the same", x.smuggled(0), 0);
        due("no barge", x.smuggled(1), -2);
        due("no e", x.smuggled(2), 0);
        x.seen(1, 10);
        due("poured through", x.smuggled(0), 1);
        x.seen(0, 12);
        due("no weight of its own is told", x.smuggled(0), 40);
        due("the first barge", x.smuggled(1), 0);
        due("what 3", x.smuggled(3), NONE);
        due("what -1", x.smuggled(-1), NONE);
        due("nothing happens", x.level(0, 0), 20);
        // a wide one takes twice as much, the water comes below 0 on its way: 10 - 2 * (8 + e + 2) ..
        x = of(THREE);
        x.book(1, NONE, 2);
        x.book(0, NONE, 2);
        x.seen(1, 10);
        x.seen(2, 30);
        due("half a ton can't be", x.smuggled(0), 0);
        x.seen(2, 5 + 2 * 31);
        due("21 more are too many", x.smuggled(0), 0);
        x.seen(2, 5 + 2 * 30);
        due("20 more", x.smuggled(2), 20);
        x.seen(2, 5 + 2 * 18);
        due("barge 2", x.smuggled(1), 2);
        due("8 more", x.smuggled(2), 8);
        // lighter than what goes down: 0 at least
        x = of(TWO);
        x.book(0, 0, 1);
        x.seen(0, 9);
        due("heavier down: 20, heavier up: by 1", x.smuggled(0), 21);
    }

    // ---------------------------------------------------------------- 25 and 26

    private static void seed() {
        WaterStair x = new WaterStair();
        due("0 at first", x.seed(5), 0);
        due("what it was", x.seed(Integer.MAX_VALUE), 5);
        due("below 0", x.seed(-1), NONE);
        due("below 0", x.seed(Integer.MIN_VALUE), NONE);
        due("x", x.count(11), Integer.MAX_VALUE);
    }

    /** One barge: what it takes to be lifted or let down tells what was drawn. */
    private static void seasons() {
        WaterStair x = of("level 500 1;level 0 1;lag 20;barge 5 0 0 3");
        // x = 12345, 1406932606, 654583775, 1449466924: draws 0, 21468, 9988, 22117
        due("down, of weight 1", x.seasons(1, 99, 1), 19);
        due("home", x.seasons(1, 99, 0), 1);
        // 9988 mod 99 = 88: down or up by 22117 mod 2 = 1: up: 89 + 20
        due("and up, of weight 89", x.seasons(2, 99, 1), 19 + 109);
        due("two are home", x.seasons(2, 99, 0), 2);
        due("x as it was", x.count(11), 0);
        due("barge as it was", x.barge(0, 1) + x.barge(0, 0), 5);
        due("m 0", x.seasons(0, 1, 0), NONE);
        due("m 21", x.seasons(21, 1, 0), NONE);
        due("w 0", x.seasons(1, 0, 0), NONE);
        due("w 100", x.seasons(1, 100, 0), NONE);
        due("what 2", x.seasons(1, 1, 2), NONE);
        due("what -1", x.seasons(1, 1, -1), NONE);
        x.seed(1406932606);
        due("from another x", x.seasons(1, 99, 1), 109);
        due("of weight 1", x.seasons(1, 1, 1), 21);
        due("all seasons", x.seasons(20, 99, 0), 20);
        x.seed(0);
        x.tip(0, 0, NONE);
        due("at its begin, the water as it is now", x.seasons(1, 99, 1), 19);
        x.chain(0, false);
        due("the chain as it is now", x.seasons(20, 99, 0), 0);
        due("no barges", of("level 1 1;level 1 1").seasons(20, 99, 0), 0);
    }

    // ---------------------------------------------------------------- 27 to 29

    private static void count() {
        WaterStair x = of(THREE);
        forced(x, "bar 0 = 1");
        x.feed(0, 0, 0, 0, 0);
        x.tip(1, NONE, 1);
        x.tip(0, 2, 1);
        x.seen(0, 1);
        x.seen(1, 1);
        x.book(0, 0, NONE);
        x.seed(9);
        int[] wanted = {3, 3, 1, 3, 35, 8, 1, 0, 2, 1, 2, 9, 20};
        for (int what = 0; what < wanted.length; what++) {
            due("count(" + what + ")", x.count(what), wanted[what]);
        }
        due("count(13)", x.count(13), NONE);
        due("count(-1)", x.count(-1), NONE);
    }

    private static void images() {
        WaterStair x = new WaterStair();
        due("image without a stair", x.image(3), 0);
        text(x, THREE);
        x.stair();
        forced(x, "bar 0 = 1");
        x.tip(0, 2, NONE);
        x.seen(0, 4);
        x.book(0, 0, NONE);
        x.seed(7);
        x.chain(1, false);
        due("image", x.image(0), 2);
        due("image 4", x.image(4), NONE);
        due("image -1", x.image(-1), NONE);
        x.chain(1, true);
        x.run(200);
        x.rain(0, 100);
        x.seen(1, 4);
        x.book(0, 0, NONE);
        x.seed(8);
        forced(x, "bar 1 = 1");
        text(x, TWO);
        x.stair();
        x.feed(0, 0, 0, 0, 0);
        due("plan of another stair", x.plan(3, false), -2);
        due("never made", x.back(1), NONE);
        due("back 4", x.back(4), NONE);
        due("back -1", x.back(-1), NONE);
        due("back", x.back(0), 2);
        int[] wanted = {3, 3, 0, 2, 35, 0, 2, 0, 2, 1, 1, 7, 20};
        for (int what = 0; what < wanted.length; what++) {
            due("back: count(" + what + ")", x.count(what), wanted[what]);
        }
        due("the chain", x.level(1, 3), 0);
        due("barge 2", x.barge(2, 0), 1);
        due("barge 1", x.barge(1, 1), 6);
        x.chain(1, true);
        due("plan", x.plan(7, false), 4);
        due("back to none", x.back(3), 0);
        due("no stair", x.count(0), 0);
        due("no stair", x.can(), NONE);
        due("back again", x.back(0), 2);
        due("an image is as it was", x.level(1, 3), 0);
        due("made anew", x.back(0) + x.run(1) + x.image(0), 2 + 1 + 3);
        due("back", x.back(0), 3);
    }
}
