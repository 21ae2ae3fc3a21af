import java.util.ArrayList;
import java.util.Arrays;
import java.util.HashMap;
import java.util.List;
import java.util.Map;
import java.util.Random;
import java.util.TreeMap;

/**
 * Random runs of calls, each answered by WaterStair and by a second, slow program that was written from the
 * document alone and shares no way of working with it: texts as lists of tokens, tests as trees, situations as texts.
 */
public final class TwinTest {
    private static final int NONE = -1;
    private static int wrong = 0;
    private static long calls = 0;
    private static final Map<String, Integer> tally = new TreeMap<>();

    public static void main(String[] args) {
        int runs = args.length > 0 ? Integer.parseInt(args[0]) : 600;
        int first = args.length > 1 ? Integer.parseInt(args[1]) : 1;
        for (int run = first; run < first + runs && wrong < 20; run++) {
            new Runner(run).go();
        }
        System.out.println(calls + " calls, " + wrong + " answers are not as due");
        if (args.length > 2) {
            tally.forEach((k, v) -> System.out.println(k + " " + v));
        }
        if (wrong != 0) {
            System.exit(1);
        }
    }

    // ---------------------------------------------------------------- the run

    private static final class Runner {
        final int number;
        final Random random;
        final WaterStair x = new WaterStair();
        final Twin y = new Twin();
        final List<String> log = new ArrayList<>();

        Runner(int number) {
            this.number = number;
            this.random = new Random(number * 7919L);
        }

        void due(String call, long got, long want) {
            calls++;
            log.add(call + " -> " + got);
            String kind = call.substring(0, call.indexOf('('));
            tally.merge(kind + " " + (want < 0 ? want < -8 ? "fault " + Math.floorMod(-3 - want, 8) : "" + want : ">=0"), 1, Integer::sum);
            if (got != want && wrong < 20) {
                wrong++;
                System.out.println("run " + number + ": " + call + " answered " + got + ", due is " + want);
                if (wrong == 1) {
                    log.forEach(l -> System.out.println("    " + l));
                }
            }
        }

        int any(int low, int high) {
            return low + random.nextInt(high - low + 1);
        }

        void go() {
            int most = any(20, 400);
            boolean hasStair = random.nextInt(20) > 0;
            for (int i = 0; i < 5 && hasStair && y.levels.isEmpty(); i++) {
                tellStair();
            }
            if (random.nextInt(3) > 0) {
                tellRule();
            }
            due("image(0)", x.image(0), y.image(0));
            if (random.nextInt(3) == 0) {
                askRows(random.nextBoolean());
            }
            while (log.size() < most && wrong < 20) {
                boolean isOver = y.crew.size() > 0 && y.tips(y.place()).isEmpty();
                if (isOver && random.nextInt(6) == 0) {
                    refresh();
                }
                step();
            }
        }

        /** All of the row by which all barges come home. */
        void askRows(boolean flag) {
            int all = (1 << y.barges.size()) - 1;
            due("plan(" + all + ", " + flag + ")", x.plan(all, flag), y.plan(all, flag));
            for (int i = 0; i < 30 && y.row(all, flag, i / 3, 0) >= 0; i++) {
                due("row(" + all + ", " + flag + ", " + i / 3 + ", " + i % 3 + ")", x.row(all, flag, i / 3, i % 3), y.row(all, flag, i / 3, i % 3));
            }
        }

        /** Where no tip may be there is little to see. */
        void refresh() {
            int l = any(0, y.levels.size() - 1);
            switch (random.nextInt(4)) {
                case 0: tellStair(); break;
                case 1: due("rain(" + l + ", 150)", x.rain(l, 150), y.rain(l, 150)); break;
                case 2: due("force(-1)", x.force(-1), y.force(-1)); break;
                default: due("back(0)", x.back(0), y.back(0));
            }
        }

        /** A tip whose barges are there, as far as there are such. */
        int[] likely() {
            int s = any(0, Math.max(0, y.levels.size() - 2));
            List<Integer> downs = new ArrayList<>(List.of(-1));
            List<Integer> ups = new ArrayList<>(List.of(-1));
            for (int i = 0; i < 8 && downs.size() + ups.size() == 2; i++) {
                s = any(0, Math.max(0, y.levels.size() - 2));
                for (int b = 0; b < y.barges.size(); b++) {
                    if (y.at.get(b) == s && !y.barges.get(b).rises) downs.add(b);
                    if (y.at.get(b) == s + 1 && y.barges.get(b).rises) ups.add(b);
                }
            }
            return new int[] {s, downs.get(random.nextInt(downs.size())), ups.get(random.nextInt(ups.size()))};
        }

        void text(String text) {
            byte[] b = new byte[(text.length() + 19) / 20 * 20];
            for (int i = 0; i < text.length(); i++) {
                b[i] = (byte) text.charAt(i);
            }
            if (random.nextInt(20) > 0) {
                due("end(0)", x.end(0), y.end(0));
            }
            for (int i = 0; i < b.length; i += 20) {
                int[] v = new int[5];
                for (int j = 0; j < 20; j++) {
                    v[j / 4] = v[j / 4] << 8 | b[i + j] & 255;
                }
                due("feed(" + v[0] + ", " + v[1] + ", " + v[2] + ", " + v[3] + ", " + v[4] + ")",
                        x.feed(v[0], v[1], v[2], v[3], v[4]), y.feed(v[0], v[1], v[2], v[3], v[4]));
            }
            int n = text.length() + (random.nextInt(100) == 0 ? any(-30, 30) : 0);
            due("end(" + n + ")", x.end(n), y.end(n));
        }

        void tellStair() {
            String text = Texts.stair(random);
            log.add("stair text \"" + text + "\"");
            text(text);
            due("stair()", x.stair(), y.stair());
        }

        void tellRule() {
            String text = Texts.rule(random);
            log.add("rule text \"" + text + "\"");
            text(text);
            due("rule()", x.rule(), y.rule());
        }

        void step() {
            int s = any(-1, Math.max(1, y.levels.size() - 1));
            int d = any(-1, Math.max(0, y.barges.size() - (random.nextInt(10) > 0 ? 1 : 0)));
            int u = any(-1, Math.max(0, y.barges.size() - (random.nextInt(10) > 0 ? 1 : 0)));
            int l = any(random.nextInt(10) > 0 ? 0 : -1, Math.max(1, y.levels.size() - (random.nextInt(10) > 0 ? 1 : 0)));
            int sets = (1 << y.barges.size()) - 1;
            int set = random.nextInt(12) == 0 ? any(-1, sets + 1) : random.nextInt(3) == 0 ? sets : any(0, sets);
            boolean flag = random.nextBoolean();
            switch (random.nextInt(32)) {
                case 0: if (random.nextInt(6) == 0) tellStair(); break;
                case 1: if (random.nextInt(2) == 0) tellRule(); break;
                case 2: { int r = any(-2, y.rules.size()); due("force(" + r + ")", x.force(r), y.force(r)); break; }
                case 3: { int w = any(-1, 4); due("level(" + l + ", " + w + ")", x.level(l, w), y.level(l, w)); break; }
                case 4: { int w = any(-1, 6); due("barge(" + d + ", " + w + ")", x.barge(d, w), y.barge(d, w)); break; }
                case 5: case 6: case 7: {
                    if (random.nextInt(3) > 0) {
                        int[] t = likely();
                        s = t[0]; d = t[1]; u = t[2];
                    }
                    due("tip(" + s + ", " + d + ", " + u + ")", x.tip(s, d, u), y.tip(s, d, u));
                    break;
                }
                case 8: case 9:
                    if (random.nextInt(4) > 0) {
                        int[] t = likely();
                        s = t[0]; d = t[1]; u = t[2];
                    }
                    due("may(" + s + ", " + d + ", " + u + ")", x.may(s, d, u), y.may(s, d, u)); break;
                case 10: {
                    int t = random.nextInt(3) == 0 ? any(-1, 10000) : any(0, 30);
                    due("rain(" + l + ", " + t + ")", x.rain(l, t), y.rain(l, t));
                    break;
                }
                case 11: due("chain(" + s + ", " + flag + ")", x.chain(s, flag) ? 1 : 0, y.chain(s, flag) ? 1 : 0); break;
                case 12: { int n = random.nextInt(20) == 0 ? any(-1, 201) : any(0, 1); due("run(" + n + ")", x.run(n), y.run(n)); break; }
                case 13: case 14: {
                    int n = random.nextInt(2) == 0 ? any(-1, 201) : any(0, 12);
                    int w = any(random.nextInt(5) == 0 ? -1 : 0, 3 + random.nextInt(8) / 7);
                    due("would(" + n + ", " + w + ")", x.would(n, w), y.would(n, w));
                    break;
                }
                case 15: due("can()", x.can(), y.can()); break;
                case 16: case 17: due("plan(" + set + ", " + flag + ")", x.plan(set, flag), y.plan(set, flag)); break;
                case 18: case 19: {
                    int k = any(-1, 9), w = any(random.nextInt(9) == 0 ? -1 : 0, 2 + random.nextInt(9) / 8);
                    due("row(" + set + ", " + flag + ", " + k + ", " + w + ")", x.row(set, flag, k, w), y.row(set, flag, k, w));
                    break;
                }
                case 20: {
                    if (random.nextInt(4) > 0) break;
                    int t = random.nextInt(6) == 0 ? any(-1, 1000) : any(0, 60), w = any(0, 1 + random.nextInt(9) / 8);
                    due("drought(" + t + ", " + w + ")", x.drought(t, w), y.drought(t, w));
                    break;
                }
                case 21: due("pass(" + s + ")", x.pass(s), y.pass(s)); break;
                case 22: due("worst()", x.worst(), y.worst()); break;
                case 23: {
                    int t = random.nextInt(4) == 0 ? -1 : random.nextInt(12) == 0 ? any(-3, 10001) : l >= 0 && l < y.water.size() ? y.water.get(l) + any(-2, 2) * any(0, 6) : 0;
                    due("seen(" + l + ", " + t + ")", x.seen(l, t) ? 1 : 0, y.seen(l, t) ? 1 : 0);
                    break;
                }
                case 24: case 25: {
                    int n = any(random.nextInt(9) == 0 ? 0 : 1, 3 + random.nextInt(9) / 8), w = random.nextInt(2) == 0 ? 0 : any(-1, 10);
                    due("went(" + n + ", " + w + ")", x.went(n, w), y.went(n, w));
                    break;
                }
                case 26: {
                    if (random.nextInt(12) > 0 && s == -1) s = 0;
                    if (random.nextInt(4) > 0) { int[] t = likely(); s = t[0]; d = t[1]; u = t[2]; }
                    due("book(" + s + ", " + d + ", " + u + ")", x.book(s, d, u), y.book(s, d, u)); break; }
                case 27: { int w = any(random.nextInt(9) == 0 ? -1 : 0, 2 + random.nextInt(9) / 8); due("smuggled(" + w + ")", x.smuggled(w), y.smuggled(w)); break; }
                case 28: { int v = random.nextInt(4) == 0 ? random.nextInt() : any(-1, 5000); due("seed(" + v + ")", x.seed(v), y.seed(v)); break; }
                case 29: {
                    int m = any(0, 21), w = any(0, 100), what = any(random.nextInt(9) == 0 ? -1 : 0, 1 + random.nextInt(9) / 8);
                    if (random.nextInt(3) == 0) { m = any(1, 4); w = any(1, 20); }
                    due("seasons(" + m + ", " + w + ", " + what + ")", x.seasons(m, w, what), y.seasons(m, w, what));
                    break;
                }
                case 30: { int w = any(-1, 13); due("count(" + w + ")", x.count(w), y.count(w)); break; }
                default: {
                    int k = any(-1, 4);
                    if (flag) due("image(" + k + ")", x.image(k), y.image(k));
                    else due("back(" + k + ")", x.back(k), y.back(k));
                }
            }
        }
    }

    // ---------------------------------------------------------------- texts, right ones and wrong ones

    private static final class Texts {
        static String stair(Random r) {
            StringBuilder s = new StringBuilder();
            int levels = r.nextInt(12) == 0 ? 1 + r.nextInt(9) : 2 + r.nextInt(r.nextBoolean() ? 3 : 7);
            int rich = r.nextInt(3);
            List<String> clauses = new ArrayList<>();
            for (int i = 0; i < levels; i++) {
                int water = rich == 0 ? r.nextInt(20) : rich == 1 ? r.nextInt(80) : r.nextInt(1000);
                clauses.add("level " + water + " " + (1 + r.nextInt(r.nextInt(3) == 0 ? 8 : 3)));
            }
            int barges = r.nextInt(12) == 0 ? r.nextInt(8) : 1 + r.nextInt(6);
            // of nearly the same weight: situations are had by several ways, some with less
            boolean isNear = r.nextInt(3) == 0;
            int least = isNear ? 10 : 1;
            int heavy = isNear ? 3 : r.nextBoolean() ? 99 : 12;
            for (int i = 0; i < barges; i++) {
                clauses.add("barge " + (least + r.nextInt(heavy)) + " " + (isNear ? r.nextInt(2) : r.nextInt(4) / 3) + " " + r.nextInt(2) + " " + r.nextInt(r.nextBoolean() ? 4 : 1000));
            }
            if (r.nextInt(6) == 0 && levels > 1) {
                clauses.add(levels, "broken " + r.nextInt(levels - 1));
            }
            if (r.nextInt(3) > 0 && !isNear) {
                clauses.add(r.nextInt(clauses.size() + 1), "lag " + r.nextInt(21));
            }
            if (r.nextInt(40) == 0) {
                for (int i = 0; i < 30; i++) {
                    clauses.add("broken 0");
                }
            }
            if (r.nextInt(15) == 0) {
                clauses.add(r.nextInt(clauses.size() + 1), clauses.get(r.nextInt(clauses.size())));
            }
            for (String c : clauses) {
                s.append(s.length() == 0 ? "" : r.nextInt(20) == 0 ? " ; " : ";").append(c);
            }
            return spoiled(r, s.toString(), "level barge broken lag 0 1 2 3 9 99 999 1000 00001 000001 100 21 ; [ < x");
        }

        static String rule(Random r) {
            StringBuilder s = new StringBuilder();
            int bars = r.nextInt(30) == 0 ? 14 : 1 + r.nextInt(3);
            for (int i = 0; i < bars; i++) {
                s.append(i == 0 ? "" : ";").append("bar ");
                if (bars > 10) {
                    s.append("tips>9");
                } else if (r.nextInt(40) == 0) {
                    sums(r, s, 70);
                } else {
                    test(r, s, r.nextInt(12) == 0 ? 8 + r.nextInt(5) : 2);
                }
            }
            return spoiled(r, s.toString(), "bar and or not [ ] < <= = >= > + - * / 0 1 99999 100000 step down up need water below here there wide tips ; x stepp");
        }

        static void sums(Random r, StringBuilder s, int n) {
            for (int i = 0; i < n; i++) {
                s.append(r.nextInt(10)).append(i + 1 == n ? "=1" : r.nextInt(3) > 0 || i + 2 == n ? "+" : "=1or ");
            }
        }

        static void test(Random r, StringBuilder s, int depth) {
            int n = 1 + r.nextInt(3) / 2 + r.nextInt(5) / 4;
            for (int i = 0; i < n; i++) {
                s.append(i == 0 ? "" : r.nextBoolean() ? " and " : " or ");
                fact(r, s, depth);
            }
        }

        static void fact(Random r, StringBuilder s, int depth) {
            int kind = depth > 2 ? 1 + r.nextInt(2) : r.nextInt(5);
            if (depth > 0 && kind == 1) {
                s.append("not ");
                fact(r, s, depth - 1);
            } else if (depth > 0 && kind == 2) {
                s.append("[");
                test(r, s, depth > 2 ? 0 : depth - 1);
                if (depth > 2) {
                    s.append(" or ");
                    fact(r, s, depth - 1);
                }
                s.append("]");
            } else {
                sum(r, s);
                s.append(new String[] {"<", " <= ", "=", ">=", " > "}[r.nextInt(5)]);
                sum(r, s);
            }
        }

        static void sum(Random r, StringBuilder s) {
            String[] words = "step down up need water below here there wide tips".split(" ");
            int n = r.nextInt(3) == 0 ? 1 + r.nextInt(4) : 1;
            for (int i = 0; i < n; i++) {
                s.append(i == 0 ? "" : "" + "+-*/".charAt(r.nextInt(4)));
                s.append(r.nextInt(3) == 0 ? "" + r.nextInt(r.nextInt(8) == 0 ? 100000 : 15) : words[r.nextInt(10)]);
            }
        }

        static String spoiled(Random r, String text, String tokens) {
            StringBuilder s = new StringBuilder(text);
            int n = r.nextInt(3) > 0 ? 0 : 1 + r.nextInt(2);
            String[] all = tokens.split(" ");
            for (int i = 0; i < n; i++) {
                int at = r.nextInt(s.length() + 1);
                switch (r.nextInt(6)) {
                    case 0: s.insert(at, all[r.nextInt(all.length)]); break;
                    case 1: s.insert(at, " " + all[r.nextInt(all.length)] + " "); break;
                    case 2: if (at < s.length()) s.deleteCharAt(at); break;
                    case 3: if (at < s.length()) s.setCharAt(at, (char) r.nextInt(256)); break;
                    case 4: s.insert(at, "  "); break;
                    default: s.setLength(at);
                }
            }
            if (r.nextInt(12) == 0) {
                s.insert(0, " ").append("  ");
            }
            return s.length() > 400 ? s.substring(0, 400) : s.toString();
        }
    }

    // ---------------------------------------------------------------- the second program

    private record Level(int water, int seats) { }

    private record Barge(int weight, boolean wide, boolean rises, int toll) {
        int begin(int last) {
            return rises ? last : 0;
        }

        int goal(int last) {
            return rises ? 0 : last;
        }
    }

    private record Token(int at, String text) {
        boolean number() {
            return !text.isEmpty() && Character.isDigit(text.charAt(0)) && text.charAt(0) < 128;
        }

        boolean word() {
            return text.matches("[a-z]+");
        }
    }

    private static final class Fault extends RuntimeException {
        final int code;

        private static final long serialVersionUID = 1;

        Fault(Token t, int kind) {
            super(null, null, false, false);
            code = 1 + 8 * t.at + kind;
        }
    }

    private interface Tree {
        long value(Map<String, Long> words);
    }

    /** Where barges are, and the water: a situation. */
    private static final class Place {
        final int[] at;
        final int[] water;
        int cost;
        Place from;
        int[] by;
        boolean gone;

        Place(int[] at, int[] water) {
            this.at = at;
            this.water = water;
        }

        Place copy() {
            return new Place(at.clone(), water.clone());
        }

        String name() {
            return Arrays.toString(at) + Arrays.toString(water);
        }
    }

    private static final class Saved {
        List<Level> levels;
        List<Integer> water;
        List<Boolean> whole;
        List<Barge> barges;
        List<Integer> at;
        int lag, tips, poured, force, seed;
        Map<Integer, Integer> seen;
        List<int[]> book;
    }

    private static final class Twin {
        String tape = "";
        List<Level> levels = new ArrayList<>();
        List<Integer> water = new ArrayList<>();
        List<Boolean> whole = new ArrayList<>();
        List<Barge> barges = new ArrayList<>();
        List<Integer> at = new ArrayList<>();
        int lag = 0;
        int tips = 0;
        int poured = 0;
        int force = NONE;
        int seed = 0;
        Map<Integer, Integer> seen = new TreeMap<>();
        List<int[]> book = new ArrayList<>();
        List<Tree> rules = new ArrayList<>();
        Map<Integer, Saved> saved = new HashMap<>();
        // barges as a season draws them, else those told
        List<Barge> crew = barges;

        int feed(int... five) {
            if (tape.length() + 20 > 400) {
                return NONE;
            }
            StringBuilder more = new StringBuilder(tape);
            for (int v : five) {
                more.append((char) (v >>> 24)).append((char) (v >>> 16 & 255)).append((char) (v >>> 8 & 255)).append((char) (v & 255));
            }
            tape = more.toString();
            return tape.length();
        }

        int end(int n) {
            if (n < 0 || n > tape.length()) {
                return NONE;
            }
            tape = tape.substring(0, n);
            return n;
        }

        static List<Token> tokens(String text) {
            List<Token> list = new ArrayList<>();
            var m = java.util.regex.Pattern.compile("[0-9]+|[a-z]+|<=|>=|[^ ]", java.util.regex.Pattern.DOTALL).matcher(text);
            while (m.find()) {
                list.add(new Token(m.start(), m.group()));
            }
            list.add(new Token(text.length(), ""));
            return list;
        }

        int stair() {
            List<Token> t = tokens(tape);
            tape = "";
            try {
                readStair(t);
            } catch (Fault f) {
                return -2 - f.code;
            }
            return levels.size();
        }

        static int told(Token t, int low, int high) {
            if (!t.number()) {
                throw new Fault(t, 0);
            }
            if (t.text.length() > 5 || Integer.parseInt(t.text) < low || Integer.parseInt(t.text) > high) {
                throw new Fault(t, 1);
            }
            return Integer.parseInt(t.text);
        }

        void readStair(List<Token> t) {
            List<Level> ls = new ArrayList<>();
            List<Barge> bs = new ArrayList<>();
            List<Integer> br = new ArrayList<>();
            Integer lg = null;
            int i = 0;
            for (int clause = 1; ; clause++) {
                Token head = t.get(i);
                switch (head.text) {
                    case "level":
                        if (clause > 32 || ls.size() == 8 || !bs.isEmpty() || !br.isEmpty()) throw new Fault(head, 4);
                        int w = told(t.get(i + 1), 0, 999);
                        ls.add(new Level(w, told(t.get(i + 2), 1, 8)));
                        i += 3;
                        break;
                    case "lag":
                        if (clause > 32 || lg != null) throw new Fault(head, 4);
                        lg = told(t.get(i + 1), 0, 20);
                        i += 2;
                        break;
                    case "barge":
                        if (clause > 32 || ls.size() < 2 || bs.size() == 6) throw new Fault(head, 4);
                        int a = told(t.get(i + 1), 1, 99);
                        int b = told(t.get(i + 2), 0, 1);
                        int c = told(t.get(i + 3), 0, 1);
                        bs.add(new Barge(a, b == 1, c == 1, told(t.get(i + 4), 0, 999)));
                        i += 5;
                        break;
                    case "broken":
                        if (clause > 32 || ls.size() < 2) throw new Fault(head, 4);
                        br.add(told(t.get(i + 1), 0, ls.size() - 2));
                        i += 2;
                        break;
                    default:
                        throw new Fault(head, 0);
                }
                Token next = t.get(i);
                if (next.text.isEmpty()) {
                    if (ls.size() < 2) throw new Fault(next, 0);
                    break;
                }
                if (!next.text.equals(";")) throw new Fault(next, 0);
                i++;
            }
            levels = ls;
            barges = bs;
            crew = bs;
            lag = lg == null ? 0 : lg;
            water = new ArrayList<>();
            whole = new ArrayList<>();
            at = new ArrayList<>();
            for (int k = 0; k < ls.size(); k++) {
                water.add(ls.get(k).water);
                whole.add(!br.contains(k));
            }
            for (Barge b : bs) {
                at.add(b.begin(ls.size() - 1));
            }
            tips = 0;
            poured = 0;
            seen = new TreeMap<>();
            book = new ArrayList<>();
        }

        int rule() {
            if (rules.size() == 6) {
                return NONE;
            }
            List<Token> t = tokens(tape);
            tape = "";
            try {
                rules.add(new Grammar(t).rule());
            } catch (Fault f) {
                return -2 - f.code;
            }
            return rules.size() - 1;
        }

        int force(int r) {
            if (r < -1 || r >= rules.size()) {
                return -2;
            }
            int was = force;
            force = r;
            return was;
        }

        int level(int l, int what) {
            if (l < 0 || l >= levels.size()) return NONE;
            if (what == 0) return water.get(l);
            if (what == 1) return levels.get(l).seats;
            if (what == 2) {
                int bits = 0;
                for (int b = 0; b < at.size(); b++) if (at.get(b) == l) bits += 1 << b;
                return bits;
            }
            if (what == 3 && l < levels.size() - 1) return whole.get(l) ? 1 : 0;
            return NONE;
        }

        int last() {
            return levels.size() - 1;
        }

        int barge(int b, int what) {
            if (b < 0 || b >= barges.size()) return NONE;
            Barge g = barges.get(b);
            switch (what) {
                case 0: return at.get(b);
                case 1: return g.weight;
                case 2: return g.wide ? 1 : 0;
                case 3: return g.rises ? 1 : 0;
                case 4: return g.toll;
                case 5: return at.get(b) == g.goal(last()) ? 1 : 0;
                default: return NONE;
            }
        }

        Place place() {
            return new Place(at.stream().mapToInt(v -> v).toArray(), water.stream().mapToInt(v -> v).toArray());
        }

        boolean isWide(int b) {
            return b != NONE && crew.get(b).wide;
        }

        int weight(int b) {
            return b == NONE ? 0 : crew.get(b).weight;
        }

        int need(int down, int up) {
            int n = weight(up) + lag - weight(down);
            if (n < 0) n = 0;
            return isWide(down) || isWide(up) ? 2 * n : n;
        }

        int counts(int down, int up) {
            return isWide(down) || isWide(up) ? 2 : 1;
        }

        int law(Place p, int done, int s, int down, int up) {
            if (!whole.get(s)) return 1;
            if (down != NONE && (p.at[down] != s || crew.get(down).rises)) return 2;
            if (up != NONE && (p.at[up] != s + 1 || !crew.get(up).rises)) return 2;
            Place q = after(p, s, down, up);
            for (int l = s; l <= s + 1; l++) {
                int there = 0;
                for (int a : q.at) if (a == l) there++;
                if (l != 0 && l != last() && there > levels.get(l).seats) return 3;
            }
            if (q.water[s] < 0) return 4;
            if (force != NONE) {
                Map<String, Long> words = new HashMap<>();
                words.put("step", (long) s);
                words.put("down", (long) weight(down));
                words.put("up", (long) weight(up));
                words.put("need", (long) need(down, up));
                words.put("water", (long) p.water[s]);
                words.put("below", (long) p.water[s + 1]);
                words.put("here", Arrays.stream(p.at).filter(a -> a == s).count());
                words.put("there", Arrays.stream(p.at).filter(a -> a == s + 1).count());
                words.put("wide", (isWide(down) ? 1L : 0) + (isWide(up) ? 1 : 0));
                words.put("tips", (long) done);
                if (rules.get(force).value(words) != 0) return 5;
            }
            return 0;
        }

        Place after(Place p, int s, int down, int up) {
            Place q = p.copy();
            if (down != NONE) q.at[down] = s + 1;
            if (up != NONE) q.at[up] = s;
            q.water[s] -= need(down, up);
            q.water[s + 1] += need(down, up);
            return q;
        }

        List<int[]> tips(Place p) {
            return tips(p, tips);
        }

        List<int[]> tips(Place p, int done) {
            List<int[]> all = new ArrayList<>();
            for (int s = 0; s < last(); s++) {
                for (int d = 0; d <= barges.size(); d++) {
                    for (int u = 0; u <= barges.size(); u++) {
                        int down = d == barges.size() ? NONE : d;
                        int up = u == barges.size() ? NONE : u;
                        if ((down != NONE || up != NONE) && law(p, done, s, down, up) == 0) {
                            all.add(new int[] {s, down, up});
                        }
                    }
                }
            }
            return all;
        }

        int may(int s, int down, int up) {
            int n = barges.size();
            if (s < 0 || s >= last() || down < -1 || down >= n || up < -1 || up >= n || down == -1 && up == -1) {
                return NONE;
            }
            int law = law(place(), tips, s, down, up);
            return law != 0 ? -2 - law : need(down, up);
        }

        void settle(Place p) {
            for (int b = 0; b < p.at.length; b++) at.set(b, p.at[b]);
            for (int l = 0; l < p.water.length; l++) water.set(l, p.water[l]);
        }

        int tip(int s, int down, int up) {
            int answer = may(s, down, up);
            if (answer >= 0) {
                settle(after(place(), s, down, up));
                tips += counts(down, up);
                poured += answer;
            }
            return answer;
        }

        int rain(int l, int tons) {
            if (l < 0 || l >= levels.size() || tons < 0 || tons > 9999) return NONE;
            for (int i = 0; i < tons && water.get(l) < 9999; i++) water.set(l, water.get(l) + 1);
            return water.get(l);
        }

        boolean chain(int s, boolean is) {
            if (s < 0 || s >= last() || whole.get(s) == is) return false;
            whole.set(s, is);
            return true;
        }

        /** Tips, home, poured, stuck, tips as they count. */
        int[] running(Place start, int n) {
            Place p = start.copy();
            int done = 0;
            int counted = 0;
            int pour = 0;
            boolean none = false;
            while (true) {
                List<int[]> all = tips(p, tips + counted);
                none = all.isEmpty();
                if (none || done == n) break;
                int[] t = all.get(0);
                p = after(p, t[0], t[1], t[2]);
                pour += need(t[1], t[2]);
                counted += counts(t[1], t[2]);
                done++;
            }
            int home = Integer.bitCount(home(p));
            System.arraycopy(p.at, 0, start.at, 0, p.at.length);
            System.arraycopy(p.water, 0, start.water, 0, p.water.length);
            return new int[] {done, home, pour, none && home < barges.size() ? 1 : 0, counted};
        }

        int home(Place p) {
            int bits = 0;
            for (int b = 0; b < p.at.length; b++) if (p.at[b] == crew.get(b).goal(last())) bits |= 1 << b;
            return bits;
        }

        int run(int n) {
            if (levels.isEmpty() || n < 0 || n > 200) return NONE;
            Place p = place();
            int[] r = running(p, n);
            settle(p);
            tips += r[4];
            poured += r[2];
            return r[0];
        }

        int would(int n, int what) {
            if (levels.isEmpty() || n < 0 || n > 200 || what < 0 || what > 3) return NONE;
            return running(place(), n)[what];
        }

        int can() {
            return levels.isEmpty() ? NONE : tips(place()).size();
        }

        /** The end; null: it can't be; the start itself marked by cost -3: unknown. */
        Place planned(Place start, int set, boolean byWater) {
            List<Place> all = new ArrayList<>();
            Map<String, Place> byName = new HashMap<>();
            all.add(start);
            byName.put(start.name(), start);
            while (true) {
                Place least = null;
                for (Place p : all) if (!p.gone && (least == null || p.cost < least.cost)) least = p;
                if (least == null) return null;
                least.gone = true;
                if ((home(least) & set) == set) return least;
                for (int[] t : tips(least)) {
                    Place q = after(least, t[0], t[1], t[2]);
                    q.cost = least.cost + (byWater ? need(t[1], t[2]) : counts(t[1], t[2]));
                    q.from = least;
                    q.by = t;
                    Place old = byName.get(q.name());
                    if (old == null) {
                        if (all.size() == 1500) {
                            q.cost = -3;
                            return q;
                        }
                        all.add(q);
                        byName.put(q.name(), q);
                    } else if (!old.gone && q.cost < old.cost) {
                        tally.merge("had with less", 1, Integer::sum);
                        old.cost = q.cost;
                        old.from = least;
                        old.by = t;
                    }
                }
            }
        }

        int plan(int set, boolean byWater) {
            if (levels.isEmpty() || set < 0 || set >= 1 << barges.size()) return NONE;
            Place p = planned(place(), set, byWater);
            return p == null ? -2 : p.cost;
        }

        int row(int set, boolean byWater, int k, int what) {
            if (levels.isEmpty() || set < 0 || set >= 1 << barges.size() || k < 0 || what < 0 || what > 2) return NONE;
            Place p = planned(place(), set, byWater);
            if (p == null) return -2;
            if (p.cost < 0) return p.cost;
            List<int[]> row = new ArrayList<>();
            for (Place q = p; q.from != null; q = q.from) row.add(0, q.by);
            return k >= row.size() ? -2 : row.get(k)[what];
        }

        int drought(int tons, int what) {
            if (levels.isEmpty() || tons < 0 || tons > 999 || what < 0 || what > 1) return NONE;
            int best = -1;
            int bestToll = -1;
            for (int set = 0; set < 1 << barges.size(); set++) {
                int toll = 0;
                for (int b = 0; b < barges.size(); b++) if ((set >> b & 1) == 1) toll += barges.get(b).toll;
                if (toll < bestToll || toll == bestToll && Integer.bitCount(set) >= Integer.bitCount(best)) continue;
                Place start = place();
                start.water[0] = tons;
                Place p = planned(start, set, false);
                if (p != null && p.cost >= 0) {
                    best = set;
                    bestToll = toll;
                }
            }
            return what == 0 ? bestToll : best;
        }

        int pass(int s) {
            if (s < 0 || s >= last()) return NONE;
            int n = 0;
            for (int b = 0; b < barges.size(); b++) {
                int from = at.get(b);
                int to = barges.get(b).goal(last());
                if (Math.min(from, to) <= s && s + 1 <= Math.max(from, to)) n++;
            }
            return n;
        }

        int worst() {
            int worst = NONE;
            for (int s = last() - 1; s >= 0; s--) if (worst == NONE || pass(s) >= pass(worst)) worst = s;
            return worst;
        }

        boolean seen(int l, int tons) {
            if (l < 0 || l >= levels.size() || tons < -1 || tons > 9999) return false;
            if (tons == -1) seen.remove(l);
            else seen.put(l, tons);
            return true;
        }

        boolean fits(int[] w) {
            return seen.entrySet().stream().allMatch(e -> w[e.getKey()] == e.getValue());
        }

        int went(int n, int what) {
            if (levels.isEmpty() || n < 1 || n > 3 || what < 0 || what > 3 * n) return NONE;
            List<List<int[]>> rows = new ArrayList<>();
            collect(place(), tips, n, new ArrayList<>(), rows);
            if (what == 0) return Math.min(rows.size(), 30000);
            return rows.isEmpty() ? -2 : rows.get(0).get((what - 1) / 3)[(what - 1) % 3];
        }

        void collect(Place p, int done, int n, List<int[]> so, List<List<int[]>> rows) {
            if (n == 0) {
                if (fits(p.water)) rows.add(new ArrayList<>(so));
                return;
            }
            for (int[] t : tips(p, done)) {
                so.add(t);
                collect(after(p, t[0], t[1], t[2]), done + counts(t[1], t[2]), n - 1, so, rows);
                so.remove(so.size() - 1);
            }
        }

        int book(int s, int down, int up) {
            if (s == NONE) {
                book.clear();
                return 0;
            }
            int n = barges.size();
            if (s < 0 || s >= last() || down < -1 || down >= n || up < -1 || up >= n || down + up == -2 || book.size() == 10) return -2;
            book.add(new int[] {s, down, up});
            return book.size();
        }

        int smuggled(int what) {
            if (levels.isEmpty() || what < 0 || what > 2) return NONE;
            int n = 0;
            int barge = -2;
            int extra = 0;
            for (int b = barges.size() - 1; b >= 0; b--) {
                for (int e = 20; e >= 1; e--) {
                    int[] w = place().water;
                    for (int[] t : book) {
                        int lift = weight(t[2]) + (t[2] == b ? e : 0) + lag - weight(t[1]) - (t[1] == b ? e : 0);
                        int n2 = Math.max(lift, 0) * (isWide(t[1]) || isWide(t[2]) ? 2 : 1);
                        w[t[0]] -= n2;
                        w[t[0] + 1] += n2;
                    }
                    if (fits(w)) {
                        n++;
                        barge = b;
                        extra = e;
                    }
                }
            }
            return what == 0 ? n : what == 1 ? barge : extra;
        }

        int seed(int v) {
            if (v < 0) return NONE;
            int was = seed;
            seed = v;
            return was;
        }

        int seasons(int m, int w, int what) {
            if (levels.isEmpty() || m < 1 || m > 20 || w < 1 || w > 99 || what < 0 || what > 1) return NONE;
            java.math.BigInteger v = java.math.BigInteger.valueOf(seed);
            int home = 0;
            int pour = 0;
            for (int i = 0; i < m; i++) {
                List<Barge> drawn = new ArrayList<>();
                Place p = place();
                for (int b = 0; b < barges.size(); b++) {
                    v = draw(v);
                    int weight = 1 + v.intValueExact() / 65536 % w;
                    v = draw(v);
                    boolean rises = v.intValueExact() / 65536 % 2 == 1;
                    drawn.add(new Barge(weight, barges.get(b).wide, rises, 0));
                    p.at[b] = drawn.get(b).begin(last());
                }
                crew = drawn;
                int[] r = running(p, 200);
                crew = barges;
                home += r[1];
                pour += r[2];
            }
            return what == 0 ? home : pour;
        }

        static java.math.BigInteger draw(java.math.BigInteger v) {
            return v.multiply(java.math.BigInteger.valueOf(1103515245)).add(java.math.BigInteger.valueOf(12345))
                    .mod(java.math.BigInteger.ONE.shiftLeft(31));
        }

        int count(int what) {
            switch (what) {
                case 0: return levels.size();
                case 1: return barges.size();
                case 2: return Integer.bitCount(home(place()));
                case 3: return tips;
                case 4: return water.stream().mapToInt(v -> v).sum();
                case 5: return poured;
                case 6: return rules.size();
                case 7: return force;
                case 8: return lag;
                case 9: return book.size();
                case 10: return seen.size();
                case 11: return seed;
                case 12: return tape.length();
                default: return NONE;
            }
        }

        int image(int k) {
            if (k < 0 || k > 3) return NONE;
            Saved s = new Saved();
            s.levels = levels;
            s.water = new ArrayList<>(water);
            s.whole = new ArrayList<>(whole);
            s.barges = barges;
            s.at = new ArrayList<>(at);
            s.lag = lag;
            s.tips = tips;
            s.poured = poured;
            s.force = force;
            s.seed = seed;
            s.seen = new TreeMap<>(seen);
            s.book = new ArrayList<>(book);
            saved.put(k, s);
            return tips;
        }

        int back(int k) {
            Saved s = saved.get(k);
            if (s == null) return NONE;
            levels = s.levels;
            water = new ArrayList<>(s.water);
            whole = new ArrayList<>(s.whole);
            barges = s.barges;
            crew = barges;
            at = new ArrayList<>(s.at);
            lag = s.lag;
            tips = s.tips;
            poured = s.poured;
            force = s.force;
            seed = s.seed;
            seen = new TreeMap<>(s.seen);
            book = new ArrayList<>(s.book);
            return tips;
        }
    }

    /** Rules as trees. */
    private static final class Grammar {
        final List<Token> tokens;
        int i = 0;
        int items = 0;

        Grammar(List<Token> tokens) {
            this.tokens = tokens;
        }

        Token now() {
            return tokens.get(i);
        }

        boolean take(String text) {
            if (!now().text.equals(text) || text.isEmpty()) return false;
            i++;
            return true;
        }

        Tree rule() {
            List<Tree> bars = new ArrayList<>();
            do {
                Token head = now();
                if (!take("bar")) throw new Fault(head, 0);
                if (bars.size() == 12) throw new Fault(head, 4);
                bars.add(test(0));
            } while (take(";"));
            if (!now().text.isEmpty()) throw new Fault(now(), 0);
            return w -> bars.stream().anyMatch(b -> b.value(w) != 0) ? 1 : 0;
        }

        Tree test(int deep) {
            Tree a = part(deep);
            if (!take("or")) return a;
            Tree b = test(deep);
            return w -> a.value(w) != 0 || b.value(w) != 0 ? 1 : 0;
        }

        Tree part(int deep) {
            Tree a = fact(deep);
            if (!take("and")) return a;
            Tree b = part(deep);
            return w -> a.value(w) != 0 && b.value(w) != 0 ? 1 : 0;
        }

        Tree fact(int deep) {
            Token t = now();
            boolean opens = t.text.equals("not") || t.text.equals("[");
            if (opens && deep == 10) throw new Fault(t, 2);
            if (take("not")) {
                Tree a = fact(deep + 1);
                return w -> a.value(w) == 0 ? 1 : 0;
            }
            if (take("[")) {
                Tree a = test(deep + 1);
                if (!take("]")) throw new Fault(now(), 0);
                return a;
            }
            Tree a = sum();
            Token sign = now();
            if (!List.of("<", "<=", "=", ">=", ">").contains(sign.text)) throw new Fault(sign, 0);
            item(sign);
            Tree b = sum();
            return w -> holds(sign.text, Long.compare(a.value(w), b.value(w))) ? 1 : 0;
        }

        static boolean holds(String sign, int c) {
            return c < 0 ? sign.startsWith("<") : c > 0 ? sign.startsWith(">") : sign.endsWith("=");
        }

        void item(Token t) {
            items++;
            if (items > 60) throw new Fault(t, 3);
            i++;
        }

        Tree sum() {
            Tree a = term();
            while (now().text.equals("+") || now().text.equals("-")) {
                boolean plus = tokens.get(i++).text.equals("+");
                Tree l = a;
                Tree r = term();
                a = plus ? w -> l.value(w) + r.value(w) : w -> l.value(w) - r.value(w);
            }
            return a;
        }

        Tree term() {
            Tree a = value();
            while (now().text.equals("*") || now().text.equals("/")) {
                boolean times = tokens.get(i++).text.equals("*");
                Tree l = a;
                Tree r = value();
                a = times ? w -> l.value(w) * r.value(w) : w -> r.value(w) == 0 ? 0 : l.value(w) / r.value(w);
            }
            return a;
        }

        Tree value() {
            Token t = now();
            if (t.number()) {
                if (t.text.length() > 5) throw new Fault(t, 1);
                item(t);
                long n = Long.parseLong(t.text);
                return w -> n;
            }
            if (!List.of("step", "down", "up", "need", "water", "below", "here", "there", "wide", "tips").contains(t.text)) {
                throw new Fault(t, 0);
            }
            item(t);
            return w -> w.get(t.text);
        }
    }
}
