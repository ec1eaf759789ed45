import java.util.NoSuchElementException;

/** What the tests share: texts are fed as signs, answers are compared and counted. */
final class Trial {
    private static final int MOST_TOLD = 40;

    private static int wrong = 0;
    private static int asked = 0;
    private static int sentences = 0;
    private static String sentence = "";

    private Trial() {
    }

    /** Feeds a text of the signs 10 and 32 .. 126: how many signs are on the TAPE then. */
    static int feed(GutterNine g, String text) {
        int signs = g.count(12);
        for (int from = 0; from < text.length(); from += 24) {
            signs = g.feed(eight(text, from), eight(text, from + 8), eight(text, from + 16));
        }
        return signs;
    }

    private static long eight(String text, int from) {
        long value = 0;
        for (int i = from; i < from + 8; i++) {
            value = value << 8 | (i < text.length() ? text.charAt(i) : 0);
        }
        return value;
    }

    static int roof(GutterNine g, String text) {
        feed(g, text);
        return g.roof();
    }

    static int yard(GutterNine g, String text) {
        feed(g, text);
        return g.yard();
    }

    /** An object with a roof of these rows and a yard told by a text; both must be without FAULT. */
    static GutterNine of(String rows, String yard) {
        GutterNine g = new GutterNine();
        due("roof " + rows, roof(g, roofText(rows)), 0);
        due("yard " + yard, yard(g, yard), 0);
        return g;
    }

    /** The rows, parted by blanks, as a ROOF is told. */
    static String roofText(String rows) {
        String[] each = rows.trim().split(" +");
        StringBuilder text = new StringBuilder("roof ").append(each[0].length()).append(' ').append(each.length);
        for (String row : each) {
            text.append(" ; row ").append(row);
        }
        return text.append(" ;").toString();
    }

    /** The sentence of the document that the next answers are about: it is told with each wrong one. */
    static void says(String words) {
        sentence = words;
        sentences++;
    }

    static void due(String call, long got, long want) {
        asked++;
        if (got != want) {
            tellWrong(call, String.valueOf(got), String.valueOf(want));
        }
    }

    static void due(String call, String got, String want) {
        asked++;
        if (!got.equals(want)) {
            tellWrong(call, got, want);
        }
    }

    static void due(String call, boolean got, boolean want) {
        due(call, got ? 1 : 0, want ? 1 : 0);
    }

    private static void tellWrong(String call, String got, String want) {
        wrong++;
        if (wrong <= MOST_TOLD) {
            String told = sentence.isEmpty() ? "" : " (" + sentence + ")";
            System.out.println(call + " answered " + got + ", due is " + want + told);
        }
    }

    /** What a text is answered when it is read as a ROOF by a new object: a FAULT's kind (0: none) and place. */
    static void dueRoof(String text, int kind, int place) {
        due("roof of \"" + text + "\"", roof(new GutterNine(), text), kind + 16 * place);
    }

    /** Likewise, as a YARD. */
    static void dueYard(String text, int kind, int place) {
        due("yard of \"" + text + "\"", yard(new GutterNine(), text), kind + 16 * place);
    }

    /** What a text is answered as a YARD: a FAULT of a kind at the token behind the sign ^, which is not fed. */
    static void dueYard(String marked, int kind) {
        int place = marked.indexOf('^');
        dueYard(marked.replace("^", ""), kind, place);
    }

    /** A text that is a YARD without FAULT. */
    static void dueYard(String text) {
        dueYard(text, 0, 0);
    }

    /** All that can be asked of where everything is, written down: what is refused must leave it as it is. */
    static String all(GutterNine g) {
        StringBuilder told = new StringBuilder();
        for (int what = 0; what <= 12; what++) {
            told.append(g.count(what)).append(' ');
        }
        for (int i = 0; i < g.count(2); i++) {
            told.append(g.arm(i)).append(' ');
        }
        for (int i = 0; i < g.count(3) * 5; i++) {
            told.append(g.thing(i / 5, i % 5)).append(' ');
        }
        for (int i = 0; i < 64; i++) {
            told.append(g.tile(i % 8, i / 8, 0)).append(',').append(g.tile(i % 8, i / 8, 1)).append(' ');
        }
        return told.toString();
    }

    /** A call that may throw NoSuchElementException. */
    interface Call {
        int answer();
    }

    static void dueToThrow(String call, Call made) {
        String thrown = "nothing";
        try {
            made.answer();
        } catch (RuntimeException e) {
            thrown = e.getClass().getSimpleName();
        }
        due(call + " throws", thrown, NoSuchElementException.class.getSimpleName());
    }

    static boolean anyWrong() {
        return wrong > 0;
    }

    static void end() {
        String about = sentences == 0 ? "" : " about " + sentences + " sentences";
        System.out.println(wrong == 0 ? asked + " answers" + about + " are as due"
            : wrong + " of " + asked + " answers are not as due");
        if (wrong != 0) {
            System.exit(1);
        }
    }
}
