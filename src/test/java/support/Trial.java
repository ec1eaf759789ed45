import java.util.NoSuchElementException;

/** What the tests share: texts are fed as signs, answers are compared and counted. */
final class Trial {
    private static int wrong = 0;
    private static int asked = 0;

    private Trial() {
    }

    /** Feeds a text of the signs 10 and 32 .. 126: how many signs are on the TAPE then. */
    static int feed(GutterNine g, String text) {
        int signs = g.count(12);
        for (int from = 0; from < text.length(); from += 24) {
            signs = g.feed(eight(text, from), eight(text, from + 8), eight(text, from + 16));
        }
        return signs;
    }

    private static long eight(String text, int from) {
        long value = 0;
        for (int i = from; i < from + 8; i++) {
            value = value << 8 | (i < text.length() ? text.charAt(i) : 0);
        }
        return value;
    }

    static int roof(GutterNine g, String text) {
        feed(g, text);
        return g.roof();
    }

    static int yard(GutterNine g, String text) {
        feed(g, text);
        return g.yard();
    }

    /** An object with a roof of these rows and a yard told by a text; both must be without FAULT. */
    static GutterNine of(String rows, String yard) {
        GutterNine g = new GutterNine();
        due("roof " + rows, roof(g, roofText(rows)), 0);
        due("yard " + yard, yard(g, yard), 0);
        return g;
    }

    /** The rows, parted by blanks, as a ROOF is told. */
    static String roofText(String rows) {
        String[] each = rows.trim().split(" +");
        StringBuilder text = new StringBuilder("roof ").append(each[0].length()).append(' ').append(each.length);
        for (String row : each) {
            text.append(" ; row ").append(row);
        }
        return text.append(" ;").toString();
    }

    static void due(String call, long got, long want) {
        asked++;
        if (got != want) {
            wrong++;
            if (wrong <= 40) {
                System.out.println(call + " answered " + got + ", due is " + want);
            }
        }
    }

    static void due(String call, boolean got, boolean want) {
        due(call, got ? 1 : 0, want ? 1 : 0);
    }

    /** A call that may throw NoSuchElementException. */
    interface Call {
        int answer();
    }

    static void dueToThrow(String call, Call made) {
        boolean thrown = false;
        try {
            made.answer();
        } catch (NoSuchElementException e) {
            thrown = true;
        }
        due(call + " throws", thrown, true);
    }

    static boolean anyWrong() {
        return wrong > 0;
    }

    static void end() {
        System.out.println(wrong == 0 ? asked + " answers are as due" : wrong + " of " + asked + " are not as due");
        if (wrong != 0) {
            System.exit(1);
        }
    }
}
