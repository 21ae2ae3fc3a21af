import java.io.IOException;
import java.nio.file.Files;
import java.nio.file.Path;
import java.util.ArrayList;
import java.util.LinkedHashMap;
import java.util.List;
import java.util.Map;

/**
 * Tests of the sentences of the document that name a boundary case: each sentence stands here by its own words,
 * with calls whose answers are due if it holds. BreakTest proves that each of them fails if its sentence is broken.
 */
abstract class Sentences {
    static final int NONE = WaterStair.NONE;
    static final int FAR = Integer.MAX_VALUE;
    static final int DEEP = Integer.MIN_VALUE;
    static final String TWO = "level 9 1;level 4 1;lag 1;barge 5 0 0 3;barge 3 0 1 4";
    static final String THREE =
            "level 20 1;level 10 2;level 5 1;lag 2;barge 10 0 0 7;barge 6 0 1 5;barge 8 1 0 9";
    private static final Path DOCUMENT = Path.of("../shared/DOC.md");

    // of each sentence what is not as due
    private final Map<String, List<String>> wrong = new LinkedHashMap<>();
    private List<String> wrongHere = new ArrayList<>();
    private String heading = "";
    private String only = null;
    private int asked = 0;

    /** Goes through all sentences. */
    abstract void prove();

    /** All sentences (or only the one that is named), each with what is not as due. */
    Map<String, List<String>> found(String name) {
        only = name;
        prove();
        return wrong;
    }

    void report() throws IOException {
        Map<String, List<String>> all = found(null);
        int broken = 0;
        for (Map.Entry<String, List<String>> sentence : all.entrySet()) {
            broken += sentence.getValue().isEmpty() ? 0 : 1;
            sentence.getValue().forEach(w -> System.out.println(sentence.getKey() + "\n    " + w));
        }
        broken += strangers();
        System.out.println(all.size() + " sentences, " + asked + " answers, " + broken + " sentences not as due");
        if (broken != 0) {
            System.exit(1);
        }
    }

    /** How many sentences do not stand in the document under their heading. */
    private int strangers() throws IOException {
        String document = Files.readString(DOCUMENT).replaceAll("[ \n]+", " ");
        int strangers = 0;
        for (String sentence : wrong.keySet()) {
            int split = sentence.indexOf(": ");
            int from = document.indexOf("## " + sentence.substring(0, split));
            int to = document.indexOf(" ## ", from + 1);
            String section = from < 0 ? "" : document.substring(from, to < 0 ? document.length() : to);
            if (!section.contains(sentence.substring(split + 2))) {
                strangers++;
                System.out.println("not in the document: " + sentence);
            }
        }
        return strangers;
    }

    // ---------------------------------------------------------------- what the proofs are written with

    void heading(String words) {
        heading = words;
    }

    void holds(String words, Runnable proof) {
        String sentence = heading + ": " + words;
        if (only != null && !only.equals(sentence)) {
            return;
        }
        wrongHere = new ArrayList<>();
        if (wrong.put(sentence, wrongHere) != null) {
            throw new IllegalStateException("told twice: " + sentence);
        }
        try {
            proof.run();
        } catch (RuntimeException e) {
            wrongHere.add("threw " + e);
        }
    }

    void due(String call, int got, int want) {
        asked++;
        if (got != want) {
            wrongHere.add(call + " answered " + got + ", due is " + want);
        }
    }

    void due(String call, boolean got, boolean want) {
        due(call, got ? 1 : 0, want ? 1 : 0);
    }

    /** The text, and nothing else, comes on the tape. */
    void tell(WaterStair x, String text) {
        x.end(0);
        for (int from = 0; from < text.length(); from += 20) {
            int[] five = new int[5];
            for (int i = 0; i < 20; i++) {
                int sign = from + i < text.length() ? text.charAt(from + i) : '#';
                five[i / 4] = five[i / 4] << 8 | sign;
            }
            x.feed(five[0], five[1], five[2], five[3], five[4]);
        }
        x.end(text.length());
    }

    WaterStair stair(String text) {
        WaterStair x = new WaterStair();
        tell(x, text);
        due("a stair: " + text, x.stair() >= 2, true);
        return x;
    }

    void force(WaterStair x, String rule) {
        tell(x, rule);
        int number = x.rule();
        due("a rule: " + rule, number >= 0, true);
        x.force(number);
    }

    static int fault(int place, int kind) {
        return -2 - (1 + 8 * place + kind);
    }

    void stairFault(String text, int place, int kind) {
        WaterStair x = new WaterStair();
        tell(x, text);
        due("stair " + text, x.stair(), fault(place, kind));
    }

    void ruleFault(String text, int place, int kind) {
        WaterStair x = new WaterStair();
        tell(x, text);
        due("rule " + text, x.rule(), fault(place, kind));
    }

    void ruleIs(String text) {
        WaterStair x = new WaterStair();
        tell(x, text);
        due("rule " + text, x.rule(), 0);
    }

    /** All that can be asked for in one number each. */
    static String all(WaterStair x) {
        StringBuilder s = new StringBuilder();
        for (int what = 0; what <= 12; what++) {
            s.append(x.count(what)).append(' ');
        }
        for (int level = 0; level < x.count(0); level++) {
            s.append("level ").append(x.level(level, 0)).append(' ').append(x.level(level, 1)).append(' ')
                    .append(x.level(level, 2)).append(' ').append(x.level(level, 3)).append(' ');
        }
        for (int barge = 0; barge < x.count(1); barge++) {
            s.append("barge ");
            for (int what = 0; what <= 5; what++) {
                s.append(x.barge(barge, what)).append(' ');
            }
        }
        return s.toString();
    }

    void stays(WaterStair x, String before) {
        asked++;
        String after = all(x);
        if (!after.equals(before)) {
            wrongHere.add("it was " + before + ", it is " + after);
        }
    }
}
