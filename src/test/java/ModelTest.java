import java.util.NoSuchElementException;
import java.util.Random;

/** Random runs of calls, of every promise, on GutterNine and on the Model: they must answer alike. */
public final class ModelTest {
    private static final int RUNS = 1500;
    private static final int CALLS = 120;
    private static final int[] ODD_INTS = {Integer.MIN_VALUE, Integer.MAX_VALUE, -3, -2, -1, 9, 10, 63, 64, 65, 66, 67,
        99, 100, 101, 999, 1000, 9999, 10000, Integer.MAX_VALUE - 1, Integer.MIN_VALUE + 1};

    private final Random random;
    private GutterNine real;
    private Model model;
    private final StringBuilder told = new StringBuilder();

    private ModelTest(long seed) {
        random = new Random(seed);
    }

    public static void main(String[] args) {
        for (int run = 0; run < RUNS && !Trial.anyWrong(); run++) {
            new ModelTest(run).run();
        }
        Trial.end();
    }

    private void run() {
        real = new GutterNine();
        model = new Model();
        read(roofText(), true);
        read(yardText(), false);
        for (int i = 0; i < CALLS && !Trial.anyWrong(); i++) {
            step();
        }
    }

    private void due(String call, long got, long want) {
        told.append(call).append(" -> ").append(want).append('\n');
        Trial.due(call, got, want);
        if (got != want) {
            System.out.println("behind this run:\n" + told);
        }
    }

    private int below(int bound) {
        return random.nextInt(bound);
    }

    private boolean chance(int oneIn) {
        return below(oneIn) == 0;
    }

    /** Mostly below a bound, at times just beyond or far off. */
    private int arg(int bound) {
        if (chance(25)) {
            return ODD_INTS[below(ODD_INTS.length)];
        }
        return chance(12) ? below(bound + 3) - 1 : below(Math.max(1, bound));
    }

    private void read(String text, boolean asRoof) {
        for (int from = 0; from < text.length(); from += 24) {
            long[] parts = new long[3];
            for (int i = 0; i < 24 && from + i < text.length(); i++) {
                parts[i / 8] |= (long) (text.charAt(from + i) & 255) << 8 * (7 - i % 8);
            }
            Trial.due("feed", real.feed(parts[0], parts[1], parts[2]), model.feed(parts[0], parts[1], parts[2]));
        }
        due((asRoof ? "roof of " : "yard of ") + text, asRoof ? real.roof() : real.yard(),
            asRoof ? model.roof() : model.yard());
    }

    private String roofText() {
        int wide = 2 + below(chance(3) ? 7 : 4);
        int deep = 2 + below(chance(3) ? 7 : 4);
        String[] palettes = {"fdulrmgpc", "ddlrug", "ggggp", "fd", "dlurc", "dddg", "ugpdlr"};
        String palette = palettes[below(palettes.length)];
        StringBuilder text = new StringBuilder("roof " + wide + " " + deep + " ;");
        for (int y = 0; y < deep; y++) {
            text.append(" row ");
            String from = chance(4) ? "ggggp" : palette;
            for (int x = 0; x < wide; x++) {
                text.append(from.charAt(below(from.length())));
            }
            text.append(" ;");
        }
        return text.toString();
    }

    private String yardText() {
        StringBuilder text = new StringBuilder();
        int people = chance(10) ? 0 : 1 + below(4);
        for (int i = 0; i < people; i++) {
            int arm = chance(3) ? 10 : chance(4) ? 0 : below(11);
            text.append("person ").append((char) ('a' + i)).append(" arm ").append(arm).append(" ;");
        }
        int things = people == 0 ? 0 : below(9);
        String[] kinds = {"ball", "shoe", "frisbee", "stick"};
        for (int i = 0; i < things; i++) {
            text.append("thing ").append((char) ('p' + i)).append(' ').append(kinds[below(4)]).append(" of ")
                .append((char) ('a' + below(people))).append(" worth ").append(below(chance(3) ? 100 : 10))
                .append(" ;\n");
        }
        int shots = below(7);
        for (int i = 0; i < shots; i++) {
            text.append("shot ").append(chance(2) ? "left" : "right").append(below(chance(3) ? 9 : 4)).append("up")
                .append(1 + below(chance(3) ? 12 : 5)).append("times").append(1 + below(99)).append(";");
        }
        text.append(chance(2) ? "net " + below(13) + ";" : "");
        text.append(chance(2) ? "window " + below(8) + " " + below(8) + " reach " + below(9) + ";" : "");
        text.append(chance(2) ? "first " + below(7) + ";" : "");
        text.append(chance(2) ? "temper " + law(0) + ";" : "");
        text.append(chance(2) ? "damage " + law(0) + ";" : "");
        return text.toString();
    }

    private String law(int depth) {
        int sort = below(depth > 4 ? 3 : 9);
        switch (sort) {
            case 0: return String.valueOf(below(chance(4) ? 10000 : 30));
            case 1: return new String[] {"lost", "value", "days"}[below(3)];
            case 2: return chance(2) ? "lost" : "days";
            case 3: return "not " + law(depth + 1);
            case 4: return "(" + law(depth + 1) + ")";
            default:
                String[] signs = {"and", "or", "<", "=", "+", "-", "*", "*", "+"};
                return law(depth + 1) + " " + signs[below(signs.length)] + " " + law(depth + 1);
        }
    }

    /** A text with one place changed. */
    private String spoilt(String text) {
        int at = below(text.length() + 1);
        String[] bits = {" ", ";", "(", ")", "<", "row ", "person ", "thing ", "x", "9", "12345", "Q", "not ", "net 3;",
            "of ", "abcdefghi", "shot ", "temper 1;", "\u0001", "\u00e9", "1", "0"};
        String put = bits[below(bits.length)];
        int to = Math.min(text.length(), at + below(3));
        return chance(5) ? text.substring(0, at) : text.substring(0, at) + put + text.substring(to);
    }

    private void step() {
        int sort = below(100);
        if (sort < 30) {
            tossSomething();
        } else if (sort < 50) {
            act();
        } else if (sort < 54) {
            readSomething();
        } else if (sort < 75) {
            foresee();
        } else {
            ask();
        }
        if (chance(4)) {
            compareAll();
        }
    }

    private void tossSomething() {
        int p = arg(model.count(2));
        int t = arg(model.count(3));
        int x = arg(model.count(0));
        int y = arg(model.count(1));
        int on = below(8);
        if (model.thing(on, 3) >= 0 && model.thing(on, 3) < 64 && chance(2)) {
            x = model.thing(on, 3) % 8;
            y = model.thing(on, 3) / 8;
        }
        int slip = chance(2) ? 0 : arg(9);
        due("toss(" + p + ", " + t + ", " + x + ", " + y + ", " + slip + ")", real.toss(p, t, x, y, slip),
            model.toss(p, t, x, y, slip));
    }

    private void act() {
        int a = arg(model.count(1));
        int b = arg(4);
        boolean back = chance(2);
        switch (below(8)) {
            case 0: due("hose(" + a + ")", real.hose(a), model.hose(a)); break;
            case 1: due("broom()", real.broom(), model.broom()); break;
            case 2: due("gale(" + b + ")", real.gale(b), model.gale(b)); break;
            case 3: int many = chance(3) ? arg(101) : 1; due("days(" + many + ")", real.days(many), model.days(many)); break;
            case 4: due("fetch(" + b + ")", real.fetch(b), model.fetch(b)); break;
            case 5: due("undo()", real.undo() ? 1 : 0, model.undo() ? 1 : 0); break;
            case 6: due("mark(" + b + ", " + back + ")", real.mark(b, back) ? 1 : 0, model.mark(b, back) ? 1 : 0); break;
            default:
                int x = arg(model.count(0));
                int kind = arg(6) - 2;
                due("see(" + x + ", " + kind + ")", real.see(x, kind) ? 1 : 0, model.see(x, kind) ? 1 : 0);
        }
    }

    private void readSomething() {
        boolean asRoof = chance(2);
        String text = chance(2) == asRoof ? roofText() : yardText();
        read(chance(4) ? text : spoilt(text), asRoof);
    }

    private void foresee() {
        int p = arg(model.count(2));
        int t = arg(model.count(3));
        int x = arg(model.count(0));
        int y = arg(model.count(1));
        int w = arg(5);
        switch (below(10)) {
            case 0: due("odds(" + p + ", " + t + ", " + x + ", " + y + ", " + w + ")", real.odds(p, t, x, y, w),
                model.odds(p, t, x, y, w)); break;
            case 1: due("gain(" + p + ", " + t + ", " + x + ", " + y + ")", caught(() -> real.gain(p, t, x, y)),
                caught(() -> model.gain(p, t, x, y))); break;
            case 2:
                if (chance(3)) {
                    due("next(" + w + ")", caught(() -> real.next(w)), caught(() -> model.next(w)));
                }
                break;
            case 3: due("plan(1)", real.plan(1), model.plan(1)); break;
            case 4:
                int ahead = model.count(4) * model.count(5) < 7 || chance(40) ? arg(4) : 3;
                due("plan(" + ahead + ")", real.plan(ahead), model.plan(ahead));
                break;
            case 5: due("alone(" + t + ", " + w + ")", real.alone(t, w), model.alone(t, w)); break;
            case 6: due("washed(" + y + ", " + w + ")", real.washed(y, w), model.washed(y, w)); break;
            case 7: due("blown(" + w + ")", real.blown(w), model.blown(w)); break;
            case 8: due("await(" + w + ")", caught(() -> real.await(w)), caught(() -> model.await(w))); break;
            default: due("lies(" + p + ", " + t + ", " + x + ", " + y + ", " + w + ")", real.lies(p, t, x, y, w),
                model.lies(p, t, x, y, w));
        }
    }

    private void ask() {
        int p = arg(model.count(2));
        int x = arg(model.count(0));
        int y = arg(model.count(1));
        int w = arg(4);
        switch (below(7)) {
            case 0: due("rolls(" + x + ", " + y + ")", real.rolls(x, y), model.rolls(x, y)); break;
            case 1: int c = arg(11); due("pitch(" + c + ")", real.pitch(c), model.pitch(c)); break;
            case 2: due("pays(" + p + ", " + w + ")", real.pays(p, w), model.pays(p, w)); break;
            case 3:
                int price = chance(3) ? arg(1000) : below(60);
                int which = chance(2) ? -1 : arg(chance(2) ? 5 : 4096);
                if (model.count(2) < 4 || chance(20)) {
                    due("rests(" + price + ", " + which + ")", real.rests(price, which), model.rests(price, which));
                }
                break;
            case 4:
                int place = chance(3) ? 64 + below(4) : chance(8) ? arg(64) : below(model.count(1)) * 8 + below(model.count(0));
                due("otherwise(" + x + ", " + y + ", " + place + ", " + w + ")", real.otherwise(x, y, place, w),
                    model.otherwise(x, y, place, w));
                break;
            case 5:
                int seed = arg(10000);
                int days = arg(61);
                due("summer(" + seed + ", " + days + ", " + w + ")", real.summer(seed, days, w),
                    model.summer(seed, days, w));
                break;
            default: int a = arg(4); due("arm(" + a + ")", real.arm(a), model.arm(a));
        }
    }

    private void compareAll() {
        for (int what = -1; what <= 13; what++) {
            due("count(" + what + ")", real.count(what), model.count(what));
        }
        for (int t = 0; t <= model.count(3); t++) {
            for (int what = -1; what <= 5; what++) {
                due("thing(" + t + ", " + what + ")", real.thing(t, what), model.thing(t, what));
            }
        }
        for (int y = -1; y <= model.count(1); y++) {
            for (int x = -1; x <= model.count(0); x++) {
                int what = arg(2);
                due("tile(" + x + ", " + y + ", " + what + ")", real.tile(x, y, what), model.tile(x, y, what));
                due("tile(" + x + ", " + y + ", 1)", real.tile(x, y, 1), model.tile(x, y, 1));
            }
        }
    }

    private static long caught(Trial.Call call) {
        try {
            return call.answer();
        } catch (NoSuchElementException e) {
            return Long.MIN_VALUE;
        }
    }
}
