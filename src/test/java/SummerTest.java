/** Promises 26 to 32: the pitch, who pays, who fetches, which tile, summers, MARKS and counts. */
public final class SummerTest {
    private static final int NONE = GutterNine.NONE;

    public static void main(String[] args) {
        pitches();
        paying();
        waiting();
        tiles();
        summers();
        marks();
        counts();
        Trial.end();
    }

    private static void pitches() {
        GutterNine g = Trial.of("ufu dcf dpf", "person a arm 10;thing x shoe of a worth 1;"
            + "shot left 1 up 1 times 1;shot right 0 up 2 times 2;shot right 1 up 3 times 4;shot right 0 up 4 times 8;");
        // Column 0: off the side; down and off; the flat tile at the ridge; over the ridge.
        Trial.due("column 0", g.pitch(2), 4 + 8);
        // Column 1: down and off; the chimney; up over the ridge; over the ridge.
        Trial.due("column 1", g.pitch(3), 4 + 8);
        // Column 2: the pipe; flat; off the side; over the ridge.
        Trial.due("column 2", g.pitch(4), 1 + 2 + 8);
        Trial.due("the fewest", g.pitch(0), 11);
        Trial.due("the column", g.pitch(1), 2);
        Trial.due("pitch(5)", g.pitch(5), NONE);
        Trial.due("pitch(-1)", g.pitch(-1), NONE);
        Trial.due("pitch far off", g.pitch(Integer.MAX_VALUE), NONE);
        Trial.due("pitch far below", g.pitch(Integer.MIN_VALUE), NONE);
        g.toss(0, 0, 0, 2, 0);
        Trial.due("THINGS do not count", g.pitch(2), 12);
        GutterNine middle = Trial.of("fdf fdf", "shot left 0 up 1 times 3;");
        Trial.due("the middle column", middle.pitch(1), 1);
        Trial.due("none is lost there", middle.pitch(0), 0);
        GutterNine net = Trial.of("ff ff", "shot left 0 up 1 times 1;shot left 0 up 2 times 2;shot left 0 up 3 times 4; net 2;");
        Trial.due("higher than the net comes back", net.pitch(2), 3);
        Trial.due("of equal columns the first", net.pitch(1), 0);
        GutterNine low = Trial.of("ff ff", "shot left 0 up 1 times 1;net 0;");
        Trial.due("a net of 0", low.pitch(0), 0);
        GutterNine over = Trial.of("ff ff", "shot left 1 up 12 times 5;");
        Trial.due("beyond the ridge and to a side", over.pitch(2), 0);
        Trial.due("beyond the ridge", over.pitch(3), 5);
    }

    private static void paying() {
        GutterNine g = Trial.of("ufp fff", "person a arm 10;person b arm 10;person c arm 1;thing x shoe of a worth 20;"
            + "thing y ball of b worth 7;thing z stick of b worth 5;thing w shoe of c worth 90;");
        g.toss(1, 0, 2, 0, 0);
        g.toss(1, 1, 0, 0, 0);
        g.toss(0, 2, 0, 1, 0);
        int[][] want = {{5, 10, 20}, {27, 10, 12}, {0, 10, 0}};
        for (int person = 0; person < 3; person++) {
            for (int law = 0; law < 3; law++) {
                Trial.due("pays(" + person + ", " + law + ")", g.pays(person, law), want[person][law]);
            }
        }
        Trial.due("pays(0, 3)", g.pays(0, 3), NONE);
        Trial.due("pays(0, -1)", g.pays(0, -1), NONE);
        Trial.due("pays(3, 0)", g.pays(3, 0), NONE);
        Trial.due("pays(-1, 1)", g.pays(-1, 1), NONE);
        g.toss(2, 3, 0, 0, 1);
        Trial.due("what fell costs nobody", g.pays(2, 0), 0);
    }

    private static void waiting() {
        String yard = "person a arm 10;person b arm 10;thing x shoe of a worth 3;thing y shoe of b worth 4;";
        GutterNine g = Trial.of("ff ff", yard);
        g.toss(0, 0, 0, 0, 2);
        // a alone minds: he fetches on day 0 as long as the price is no more than 21; b lets him.
        int[] rests = rests(g, 20);
        for (int code : rests) {
            Trial.due("somebody fetches on day 0: " + code, code / 8 == 0 || code % 8 == 0, true);
        }
        Trial.due("a fetches at once, b later", has(rests, 7), true);
        Trial.due("by price 22 nobody fetches", g.rests(22, NONE), 1);
        Trial.due("never", g.rests(22, 0), 63);
        Trial.due("the next", g.rests(22, 1), NONE);
        Trial.due("by price 21 it is all the same to him", has(rests(g, 21), 63), true);
        g.toss(1, 1, 0, 0, 2);
        Trial.due("by both: day 0 of one, the other later", has(rests(g, 10), 7 * 8), true);
        Trial.due("by both: not day 1", has(rests(g, 10), 1 * 8 + 2), false);
        Trial.due("rests(-1, -1)", g.rests(-1, NONE), NONE);
        Trial.due("rests(1000, -1)", g.rests(1000, NONE), NONE);
        Trial.due("rests(999, -1)", g.rests(999, NONE), 1);
        Trial.due("rests(0, -2)", g.rests(0, -2), NONE);
        Trial.due("rests(0, far)", g.rests(0, Integer.MAX_VALUE), NONE);
        Trial.due("nobody", new GutterNine().rests(0, NONE), NONE);
        GutterNine one = Trial.of("ff ff", "person a arm 1;");
        Trial.due("alone, nothing over, price 0: any day", one.rests(0, NONE), 8);
        for (int i = 0; i < 8; i++) {
            Trial.due("the least first", one.rests(0, i), i);
        }
        Trial.due("alone, price 1: never", one.rests(1, 0), 7);
        GutterNine four = Trial.of("ff ff", "person a arm 1;person b arm 1;person c arm 1;person d arm 1;");
        Trial.due("four, all is one", four.rests(0, NONE), 4096);
        Trial.due("four, the last", four.rests(0, 4095), 4095);
        Trial.due("four, beyond", four.rests(0, 4096), NONE);
    }

    private static int[] rests(GutterNine g, int price) {
        int[] all = new int[g.rests(price, NONE)];
        for (int i = 0; i < all.length; i++) {
            all[i] = g.rests(price, i);
            Trial.due("they come in order", i == 0 || all[i - 1] < all[i], true);
        }
        return all;
    }

    private static boolean has(int[] all, int code) {
        for (int each : all) {
            if (each == code) {
                return true;
            }
        }
        return false;
    }

    private static void tiles() {
        GutterNine g = Trial.of("df dp gc", "person a arm 10;thing x shoe of a worth 1;");
        g.toss(0, 0, 0, 1, 0);
        Trial.due("it is so as it is", g.otherwise(0, 0, 16, 0), 0);
        Trial.due("it is so: no first", g.otherwise(0, 0, 16, 1), NONE);
        Trial.due("it stays: f, m", g.otherwise(0, 0, 0, 0), 2);
        Trial.due("the first is f there", g.otherwise(0, 0, 0, 1), 0);
        Trial.due("to the pipe: r below", g.otherwise(0, 0, 66, 0), 1);
        Trial.due("to the pipe: the first", g.otherwise(0, 0, 66, 1), 8 * 8 + 4);
        Trial.due("over: u", g.otherwise(0, 0, 65, 1), 2);
        Trial.due("falls: l, at either", g.otherwise(0, 0, 64, 0), 2);
        Trial.due("falls: the first", g.otherwise(0, 0, 64, 1), 3);
        Trial.due("to the right: r", g.otherwise(0, 0, 1, 0), 1);
        Trial.due("from the gutter it does not go", g.otherwise(0, 2, 0, 0), NONE);
        Trial.due("from the gutter it stays", g.otherwise(0, 2, 16, 0), 0);
        Trial.due("a pipe's cell is no place", g.otherwise(0, 0, 9, 0), NONE);
        Trial.due("a place beyond the roof", g.otherwise(0, 0, 2, 0), NONE);
        Trial.due("place 67", g.otherwise(0, 0, 67, 0), NONE);
        Trial.due("place -1", g.otherwise(0, 0, -1, 0), NONE);
        Trial.due("place 137, a pipe told wrongly", g.otherwise(0, 0, 137, 0), NONE);
        Trial.due("from a pipe", g.otherwise(1, 1, 66, 0), NONE);
        Trial.due("from a chimney", g.otherwise(1, 2, 64, 0), NONE);
        Trial.due("from beyond", g.otherwise(2, 0, 64, 0), NONE);
        Trial.due("from below", g.otherwise(0, 3, 64, 0), NONE);
        Trial.due("what 2", g.otherwise(0, 0, 0, 2), NONE);
        Trial.due("what -1", g.otherwise(0, 0, 0, -1), NONE);
        Trial.due("the tiles are as they were", g.tile(0, 0, 0), 1);
    }

    private static final int ARM = 3;

    /** A SUMMER once more, by hand: a ball and a shoe of one PERSON. */
    private static void summers() {
        String yard = "person a arm " + ARM + ";thing x ball of a worth 9;thing y shoe of a worth 2;first 2;";
        for (int seed = 0; seed <= 9999; seed += 303) {
            GutterNine g = Trial.of("ufu dlr gpg", yard);
            g.toss(0, 1, 1, 2, 0);
            g.days(2);
            int days = 1 + seed % 60;
            int[] got = new int[4];
            for (int what = 0; what < 4; what++) {
                got[what] = g.summer(seed, days, what);
            }
            Trial.due("all is as ahead: today", g.count(8), 2);
            Trial.due("all is as ahead: in pipes", g.count(7), 1);
            Trial.due("all is as ahead: what can be undone", g.count(10), 2);
            Trial.due("all is as ahead: who threw", g.thing(0, 4), NONE);
            int paid = g.count(9);
            live(g, seed, days);
            Trial.due("summer " + seed + ": in hand", got[0], g.count(4));
            Trial.due("summer " + seed + ": over", got[1], g.count(6));
            Trial.due("summer " + seed + ": on the roof and in pipes", got[2], g.count(5) + g.count(7));
            Trial.due("summer " + seed + ": paid", got[3], g.count(9) - paid);
        }
        GutterNine g = Trial.of("ff ff", yard);
        Trial.due("summer(-1, 1, 0)", g.summer(-1, 1, 0), NONE);
        Trial.due("summer(10000, 1, 0)", g.summer(10000, 1, 0), NONE);
        Trial.due("summer(0, 0, 0)", g.summer(0, 0, 0), NONE);
        Trial.due("summer(9999, 60, 0)", g.summer(9999, 60, 0) >= 0, true);
        Trial.due("summer(0, 61, 0)", g.summer(0, 61, 0), NONE);
        Trial.due("summer(0, 1, 4)", g.summer(0, 1, 4), NONE);
        Trial.due("summer(0, 1, -1)", g.summer(0, 1, -1), NONE);
        Trial.due("nothing", Trial.of("ff ff", "person a arm 1;").summer(0, 1, 0), NONE);
    }

    private static long g;

    private static int draw(int below) {
        g = (g * 1103515245L + 12345L) % 2147483648L;
        return (int) (g / 65536 % below);
    }

    private static void live(GutterNine roof, int seed, int days) {
        g = seed;
        for (int day = 1; day <= days; day++) {
            int thing = draw(2);
            if (roof.thing(thing, 3) == 64) {
                int cell = draw(9);
                int drawn = draw(80);
                int slip = drawn < 8 * ARM ? 0 : 1 + (drawn - 8 * ARM) / (10 - ARM);
                roof.toss(0, thing, cell % 3, cell / 3, slip);
            }
            if (day % 10 == 0) {
                roof.gale(draw(4));
            }
            roof.days(1);
        }
    }

    private static void marks() {
        GutterNine m = Trial.of("fp ff", "person a arm 10;thing x ball of a worth 9;thing y shoe of a worth 2;");
        Trial.due("nothing is on it", m.mark(0, true), false);
        Trial.due("mark(4, false)", m.mark(4, false), false);
        Trial.due("mark(-1, false)", m.mark(-1, false), false);
        Trial.due("mark(4, true)", m.mark(4, true), false);
        m.toss(0, 0, 1, 0, 0);
        m.see(1, 2);
        m.days(2);
        Trial.due("mark(3, false)", m.mark(3, false), true);
        Trial.due("what can be undone stays", m.count(10), 2);
        m.toss(0, 1, 0, 0, 0);
        m.see(0, 1);
        m.see(1, -2);
        m.days(4);
        Trial.due("mark(0, false)", m.mark(0, false), true);
        Trial.due("gone back", m.mark(3, true), true);
        Trial.due("the pipe", m.tile(1, 0, 1), 0);
        Trial.due("the cell", m.tile(0, 0, 1), NONE);
        Trial.due("who threw it", m.thing(0, 4), 0);
        Trial.due("nobody threw the shoe", m.thing(1, 4), NONE);
        Trial.due("today", m.count(8), 2);
        Trial.due("paid", m.count(9), 2);
        Trial.due("columns SEEN", m.count(11), 1);
        Trial.due("the shoe comes where it was not seen", m.lies(0, 1, 1, 1, 0), NONE);
        Trial.due("nothing can be undone", m.undo(), false);
        Trial.due("once more", m.mark(3, true), true);
        Trial.due("the other one", m.mark(0, true), true);
        Trial.due("today there", m.count(8), 6);
        Trial.due("who threw the shoe", m.thing(1, 4), 0);
        Trial.due("columns SEEN there", m.count(11), 1);
        Trial.due("laid again", m.mark(3, false), true);
        m.days(1);
        m.mark(3, true);
        Trial.due("the newer one counts", m.count(8), 6);
        Trial.due("mark(1, true)", m.mark(1, true), false);
    }

    private static void counts() {
        GutterNine c = Trial.of("fpu fff", "person a arm 10;person b arm 10;thing x ball of a worth 9;"
            + "thing y shoe of a worth 2;thing z shoe of b worth 2;thing w ball of b worth 2;thing v ball of b worth 2;");
        c.toss(0, 0, 1, 0, 0);
        c.toss(0, 1, 0, 0, 0);
        c.toss(0, 2, 0, 1, 0);
        c.toss(0, 3, 2, 0, 0);
        c.days(4);
        c.see(2, -1);
        Trial.feed(c, "roof ");
        int[] want = {3, 2, 2, 5, 1, 2, 1, 1, 4, 4, 5, 1, 5};
        for (int what = 0; what < want.length; what++) {
            Trial.due("count(" + what + ")", c.count(what), want[what]);
        }
        Trial.due("count(13)", c.count(13), NONE);
        Trial.due("count(-1)", c.count(-1), NONE);
    }
}
