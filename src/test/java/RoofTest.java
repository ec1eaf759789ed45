/** Promises 5 to 14: what is where, throws, hoses, brooms, gales, days, fetching, and all undone. */
public final class RoofTest {
    private static final int NONE = GutterNine.NONE;
    /** A ball, a shoe, a frisbee, a stick, and a second ball. */
    private static final String FIVE = "person a arm 10;person b arm 4;thing ba ball of a worth 7;"
        + "thing sh shoe of a worth 5;thing fr frisbee of b worth 3;thing st stick of b worth 2;"
        + "thing bb ball of b worth 9;";
    private static final int BALL = 0;
    private static final int SHOE = 1;
    private static final int FRISBEE = 2;
    private static final int STICK = 3;
    private static final int SECOND = 4;

    public static void main(String[] args) {
        tilesAndThings();
        rolling();
        landing();
        knocking();
        hoses();
        brooms();
        gales();
        galesRolledBack();
        passing();
        fetching();
        undoing();
        Trial.end();
    }

    private static int put(GutterNine g, int thing, int x, int y) {
        return g.toss(0, thing, x, y, 0);
    }

    private static void tilesAndThings() {
        GutterNine g = Trial.of("fp dm", FIVE);
        Trial.due("tile(1, 0, 0)", g.tile(1, 0, 0), 7);
        Trial.due("tile(0, 0, 2)", g.tile(0, 0, 2), NONE);
        Trial.due("tile(0, 0, -1)", g.tile(0, 0, -1), NONE);
        Trial.due("tile(2, 0, 0)", g.tile(2, 0, 0), NONE);
        Trial.due("tile(0, 2, 0)", g.tile(0, 2, 0), NONE);
        Trial.due("tile(-1, 0, 0)", g.tile(-1, 0, 0), NONE);
        Trial.due("tile(0, -1, 1)", g.tile(0, -1, 1), NONE);
        Trial.due("tile far off", g.tile(Integer.MAX_VALUE, Integer.MIN_VALUE, 0), NONE);
        Trial.due("into the pipe", put(g, SHOE, 1, 0), 66);
        Trial.due("on the moss", put(g, STICK, 1, 1), 9);
        Trial.due("tile(1, 0, 1)", g.tile(1, 0, 1), SHOE);
        Trial.due("tile(1, 1, 1)", g.tile(1, 1, 1), STICK);
        int[][] want = {{0, 0, 7, 64, NONE}, {1, 0, 5, 66, 0}, {2, 1, 3, 64, NONE}, {3, 1, 2, 9, 0}, {0, 1, 9, 64, NONE}};
        for (int t = 0; t < 5; t++) {
            for (int what = 0; what < 5; what++) {
                Trial.due("thing(" + t + ", " + what + ")", g.thing(t, what), want[t][what]);
            }
        }
        Trial.due("thing(0, 5)", g.thing(0, 5), NONE);
        Trial.due("thing(0, -1)", g.thing(0, -1), NONE);
        Trial.due("thing(5, 0)", g.thing(5, 0), NONE);
        Trial.due("thing(-1, 0)", g.thing(-1, 0), NONE);
        Trial.due("arm(0)", g.arm(0), 10);
        Trial.due("arm(1)", g.arm(1), 4);
        Trial.due("arm(2)", g.arm(2), NONE);
        Trial.due("arm(-1)", g.arm(-1), NONE);
    }

    private static void rolling() {
        GutterNine g = Trial.of("rrd udl ufc pgu", FIVE);
        Trial.due("round and down", g.rolls(0, 0), 17);
        Trial.due("the shoe does not roll", put(g, SHOE, 2, 0), 2);
        Trial.due("rolls(2, 0)", g.rolls(2, 0), NONE);
        put(g, BALL, 1, 2);
        Trial.due("rolls(1, 2), by the first THING", g.rolls(1, 2), NONE);
        g.undo();
        Trial.due("stopped by the shoe", g.rolls(0, 0), 1);
        Trial.due("one step of the frisbee", put(g, FRISBEE, 0, 0), 1);
        Trial.due("the stick does not roll", put(g, STICK, 1, 1), 9);
        Trial.due("from the side, round, till the frisbee", g.rolls(0, 2), 0);
        Trial.due("a chimney stops it", g.rolls(2, 3), 26);
        Trial.due("rolls of a chimney", g.rolls(2, 2), NONE);
        Trial.due("rolls of a pipe", g.rolls(0, 3), NONE);
        Trial.due("rolls(3, 0)", g.rolls(3, 0), NONE);
        Trial.due("rolls(0, -1)", g.rolls(0, -1), NONE);
        GutterNine ring = Trial.of("rd ul", FIVE);
        Trial.due("a ring ends ahead of its start", ring.rolls(0, 0), 8);
        Trial.due("a ring ends ahead of its start, too", ring.rolls(1, 1), 1);
        GutterNine out = Trial.of("ul rd", FIVE);
        Trial.due("beyond the ridge", out.rolls(0, 0), 65);
        Trial.due("beyond the ridge by a step aside", out.rolls(1, 0), 65);
        Trial.due("beyond the last row", out.rolls(1, 1), 64);
        GutterNine pipe = Trial.of("lr dd pp", FIVE);
        Trial.due("to the left", pipe.rolls(0, 0), 64);
        Trial.due("to the right", pipe.rolls(1, 0), 64);
        Trial.due("into a pipe", pipe.rolls(0, 1), 66);
        put(pipe, SHOE, 0, 2);
        Trial.due("a pipe that is not free", pipe.rolls(0, 1), 64);
        Trial.due("the other one is", pipe.rolls(1, 1), 66);
    }

    private static void landing() {
        GutterNine g = Trial.of("fff fcf fpf", FIVE);
        int[] want = {64, 0, 1, 2, 8, 10, 16, 66, 18};
        for (int slip = 0; slip <= 8; slip++) {
            Trial.due("slip " + slip, g.toss(1, SHOE, 1, 1, slip), want[slip]);
            Trial.due("thrown by", g.thing(SHOE, 4), 1);
            g.undo();
        }
        Trial.due("nobody threw it again", g.thing(SHOE, 4), NONE);
        int[] corner = {0, 64, 65, 65, 64, 1, 64, 8, 64};
        for (int slip = 0; slip <= 8; slip++) {
            Trial.due("corner, slip " + slip, g.toss(0, SHOE, 0, 0, slip), corner[slip]);
            g.undo();
        }
        Trial.due("beyond the ridge, to the right", g.toss(0, SHOE, 2, 0, 3), 64);
        Trial.due("below the last row", g.toss(0, SHOE, 1, 2, 7), 64);
        Trial.due("slip 9", g.toss(0, SHOE, 0, 0, 9), NONE);
        Trial.due("slip -1", g.toss(0, SHOE, 0, 0, -1), NONE);
        Trial.due("no such person", g.toss(2, SHOE, 0, 0, 0), NONE);
        Trial.due("no such thing", g.toss(0, 5, 0, 0, 0), NONE);
        Trial.due("no such x", g.toss(0, SHOE, 3, 0, 0), NONE);
        Trial.due("no such y", g.toss(0, SHOE, 0, 3, 0), NONE);
        Trial.due("no such y below", g.toss(0, SHOE, 0, -1, 0), NONE);
        Trial.due("into the pipe", put(g, SHOE, 1, 2), 66);
        Trial.due("it is not in hand", put(g, SHOE, 0, 0), NONE);
        Trial.due("the pipe is full", put(g, STICK, 1, 2), 64);
        Trial.due("who threw what fell", g.thing(STICK, 4), 0);
    }

    private static void knocking() {
        GutterNine g = Trial.of("ff ff ff ff", FIVE);
        put(g, SHOE, 0, 0);
        Trial.due("a ball knocks a step", put(g, BALL, 0, 0), 0);
        Trial.due("the shoe is a step on", g.thing(SHOE, 3), 8);
        Trial.due("a stick knocks two", put(g, STICK, 0, 1), 8);
        Trial.due("the shoe is two on", g.thing(SHOE, 3), 24);
        Trial.due("nobody else threw the shoe", g.thing(SHOE, 4), 0);
        Trial.due("the ball can't go for the stick: the frisbee falls", put(g, FRISBEE, 0, 0), 64);
        Trial.due("the ball stays", g.thing(BALL, 3), 0);

        GutterNine last = Trial.of("ff ff", FIVE);
        put(last, SHOE, 0, 1);
        Trial.due("knocked off the last row", put(last, BALL, 0, 1), 8);
        Trial.due("the shoe is in hand", last.thing(SHOE, 3), 64);
        put(last, SHOE, 0, 0);
        Trial.due("the knocked one can't go: the thrown one falls", put(last, SECOND, 0, 0), 64);
        Trial.due("the shoe stays", last.thing(SHOE, 3), 0);
        Trial.due("a stick's second step off the roof", put(last, FRISBEE, 1, 0), 1);
        Trial.due("a stick at it", put(last, STICK, 1, 0), 1);
        Trial.due("the frisbee went two: off", last.thing(FRISBEE, 3), 64);

        GutterNine chimney = Trial.of("fff fcp fff", FIVE);
        put(chimney, SHOE, 1, 0);
        Trial.due("a chimney behind: it falls", put(chimney, BALL, 1, 0), 64);
        put(chimney, BALL, 2, 0);
        Trial.due("knocked into a pipe", put(chimney, STICK, 2, 0), 2);
        Trial.due("the ball is in the pipe, not a step on", chimney.thing(BALL, 3), 66);

        GutterNine full = Trial.of("ff pf", FIVE);
        put(full, SHOE, 0, 1);
        put(full, BALL, 0, 0);
        Trial.due("knocked to a full pipe", put(full, STICK, 0, 0), 0);
        Trial.due("it fell", full.thing(BALL, 3), 64);

        GutterNine back = Trial.of("ff uf", FIVE);
        put(back, BALL, 0, 0);
        Trial.due("it rolls back: the thrown one falls", put(back, SHOE, 0, 0), 64);
        Trial.due("the ball is there", back.thing(BALL, 3), 0);
        back.undo();
        back.undo();
        put(back, SHOE, 0, 0);
        Trial.due("a shoe does not roll back", put(back, BALL, 0, 0), 0);
        Trial.due("it is a step on", back.thing(SHOE, 3), 8);

        GutterNine through = Trial.of("ff rf uf ff", FIVE + "window 1 1 reach 0;");
        put(through, SHOE, 1, 1);
        Trial.due("stopped by the shoe", put(through, BALL, 0, 1), 8);
        Trial.due("it rolls back: the stick's two steps are beyond that", put(through, STICK, 0, 1), 8);
        Trial.due("the ball is on the last row", through.thing(BALL, 3), 24);
        through.undo();
        Trial.due("the shoe is swept away", through.broom(), 1 << SHOE);
        Trial.due("the knocked one rolls back, and on", put(through, SHOE, 0, 1), 8);
        Trial.due("the ball came by where it was", through.thing(BALL, 3), 9);
        GutterNine roll = Trial.of("fff ffd fgl", FIVE);
        put(roll, SECOND, 2, 0);
        Trial.due("the knocked one rolls on", put(roll, SHOE, 2, 0), 2);
        Trial.due("as far as the gutter", roll.thing(SECOND, 3), 17);
        GutterNine two = Trial.of("ff ff rf fc", FIVE);
        put(two, SECOND, 0, 0);
        put(two, STICK, 0, 0);
        Trial.due("two steps, then it rolls", two.thing(SECOND, 3), 17);
        GutterNine stop = Trial.of("ff rf cf", FIVE);
        put(stop, SECOND, 0, 0);
        put(stop, STICK, 0, 0);
        Trial.due("one step, then it rolls from there", stop.thing(SECOND, 3), 9);
        GutterNine thrown = Trial.of("ff df ff ff", FIVE);
        put(thrown, SHOE, 0, 1);
        Trial.due("the thrown ball rolls after it, and stops by it", put(thrown, BALL, 0, 1), 8);
        Trial.due("the shoe", thrown.thing(SHOE, 3), 16);
    }

    private static void hoses() {
        GutterNine g = Trial.of("ffffffff gggpgggg", FIVE);
        put(g, SHOE, 6, 1);
        put(g, STICK, 1, 1);
        put(g, BALL, 4, 1);
        put(g, FRISBEE, 0, 1);
        put(g, SECOND, 0, 0);
        Trial.due("washed in hand", g.washed(1, 0), 1 << SHOE | 1 << STICK | 1 << FRISBEE);
        Trial.due("washed into the pipe", g.washed(1, 1), 1 << BALL);
        Trial.due("washed moves nothing", g.thing(SHOE, 3), 14);
        Trial.due("hose(1)", g.hose(1), 4);
        Trial.due("the nearest is in the pipe", g.tile(3, 1, 1), BALL);
        Trial.due("the others fell", g.count(4), 3);
        Trial.due("hose(0) without a pipe", g.hose(0), 0);
        Trial.due("hose(2)", g.hose(2), NONE);
        Trial.due("hose(-1)", g.hose(-1), NONE);
        Trial.due("washed(2, 0)", g.washed(2, 0), NONE);
        Trial.due("washed(-1, 0)", g.washed(-1, 0), NONE);
        Trial.due("washed(0, 2)", g.washed(0, 2), NONE);
        Trial.due("washed(0, -1)", g.washed(0, -1), NONE);

        GutterNine equal = Trial.of("fffff ggpgg", FIVE);
        put(equal, SHOE, 3, 1);
        put(equal, STICK, 1, 1);
        equal.hose(1);
        Trial.due("of equal ones the left one", equal.tile(2, 1, 1), STICK);
        Trial.due("the other fell", equal.thing(SHOE, 3), 64);

        GutterNine pipes = Trial.of("fffff pgggp", FIVE);
        put(pipes, SHOE, 2, 1);
        put(pipes, STICK, 3, 1);
        Trial.due("hose", pipes.hose(1), 2);
        Trial.due("of equal pipes the left one", pipes.tile(0, 1, 1), SHOE);
        Trial.due("the nearer one", pipes.tile(4, 1, 1), STICK);

        GutterNine stopped = Trial.of("fffffff ggfggpg", FIVE);
        put(stopped, SHOE, 0, 1);
        put(stopped, STICK, 2, 1);
        Trial.due("what is no gutter stops it", stopped.hose(1), 1);
        Trial.due("ahead of the flat tile", stopped.thing(SHOE, 3), 9);
        Trial.due("hose again", stopped.hose(1), 0);
        Trial.due("what is on no gutter stays", stopped.thing(STICK, 3), 10);
        GutterNine none = Trial.of("ff gg", FIVE);
        put(none, SHOE, 0, 1);
        Trial.due("no pipe", none.hose(1), 0);
        GutterNine chimney = Trial.of("ffff ggcp", FIVE);
        put(chimney, SHOE, 0, 1);
        Trial.due("a chimney stops it", chimney.hose(1), 1);
        Trial.due("ahead of it", chimney.thing(SHOE, 3), 9);
    }

    private static void brooms() {
        GutterNine g = Trial.of("fff fpf fff", FIVE + "window 1 1 reach 1;");
        put(g, BALL, 0, 0);
        put(g, SHOE, 1, 0);
        put(g, FRISBEE, 2, 2);
        put(g, STICK, 1, 1);
        put(g, SECOND, 0, 1);
        Trial.due("broom()", g.broom(), 1 << SHOE | 1 << SECOND);
        Trial.due("what is in a pipe stays", g.thing(STICK, 3), 66);
        Trial.due("what is too far stays", g.count(5), 2);
        Trial.due("broom() again", g.broom(), 0);
        Trial.due("count(10)", g.count(10), 7);
        GutterNine far = Trial.of("ff ff", FIVE + "window 7 7 reach 0;");
        Trial.due("a window beyond the roof", far.broom(), 0);
        GutterNine without = Trial.of("ff ff", FIVE);
        Trial.due("no window", without.broom(), NONE);
        Trial.due("no window: nothing to undo", without.count(10), 0);
    }

    private static void gales() {
        GutterNine g = Trial.of("fff fcf mgf", FIVE);
        put(g, SHOE, 2, 0);
        put(g, BALL, 1, 0);
        put(g, FRISBEE, 0, 1);
        put(g, SECOND, 0, 2);
        Trial.due("the way by which most come", g.blown(1), 2);
        Trial.due("what all four bring", g.blown(0), 1);
        Trial.due("gale(3)", g.gale(3), 0);
        Trial.due("gale(0)", g.gale(0), 0);
        Trial.due("gale(1)", g.gale(1), 2);
        Trial.due("over the ridge", g.thing(BALL, 3), 65);
        Trial.due("a row back", g.thing(FRISBEE, 3), 0);
        Trial.due("moss holds", g.thing(SECOND, 3), 16);
        g.undo();
        Trial.due("gale(2)", g.gale(2), 2);
        Trial.due("to the left", g.thing(BALL, 3), 0);
        Trial.due("off the roof", g.thing(FRISBEE, 3), 64);
        Trial.due("a shoe stays", g.thing(SHOE, 3), 2);
        Trial.due("gale(-1)", g.gale(-1), NONE);
        Trial.due("gale(4)", g.gale(4), NONE);
        Trial.due("blown(2)", g.blown(2), NONE);
        Trial.due("blown(-1)", g.blown(-1), NONE);

        GutterNine order = Trial.of("ffff fffg", FIVE);
        put(order, BALL, 0, 0);
        put(order, SECOND, 1, 0);
        Trial.due("by numbers: the first is stopped", order.gale(3), 1);
        Trial.due("the ball", order.thing(BALL, 3), 0);
        Trial.due("the second", order.thing(SECOND, 3), 2);
        order.undo();
        Trial.due("by numbers: the first is out of the way", order.gale(2), 2);
        Trial.due("the ball fell", order.thing(BALL, 3), 64);
        Trial.due("the second is there", order.thing(SECOND, 3), 0);

        GutterNine gutter = Trial.of("ff gg", FIVE);
        put(gutter, BALL, 0, 1);
        Trial.due("a gutter holds", gutter.gale(2), 0);
        GutterNine rolls = Trial.of("frdf fffu ffff", FIVE);
        put(rolls, BALL, 0, 0);
        Trial.due("it is moved", rolls.gale(3), 1);
        Trial.due("and rolls on", rolls.thing(BALL, 3), 10);
        put(rolls, FRISBEE, 0, 0);
        rolls.gale(3);
        Trial.due("a frisbee rolls one step", rolls.thing(FRISBEE, 3), 2);
        GutterNine pipe = Trial.of("fp ff", FIVE);
        put(pipe, BALL, 0, 0);
        Trial.due("into a pipe", pipe.gale(3), 1);
        Trial.due("it is there", pipe.thing(BALL, 3), 66);
        put(pipe, SECOND, 0, 0);
        Trial.due("a full pipe brings it", pipe.blown(0), 2);
        Trial.due("first of equal ways", pipe.blown(1), 2);
    }

    private static void galesRolledBack() {
        GutterNine back = Trial.of("fl ff", FIVE);
        put(back, BALL, 0, 0);
        Trial.due("it came, and rolled back: it was not moved", back.gale(3), 0);
        Trial.due("it is where it was", back.thing(BALL, 3), 0);
        Trial.due("the gale can be undone all the same", back.count(10), 2);
        put(back, FRISBEE, 0, 1);
        Trial.due("one rolled back, one went on", back.gale(3), 1);
        Trial.due("a frisbee goes on", back.thing(FRISBEE, 3), 9);
        GutterNine slopes = Trial.of("dl gf", FIVE);
        put(slopes, SHOE, 0, 1);
        put(slopes, FRISBEE, 0, 0);
        Trial.due("a frisbee rolled back to a slope", slopes.gale(3), 0);
        Trial.due("the frisbee is where it was", slopes.thing(FRISBEE, 3), 0);
        GutterNine on = Trial.of("ul ff", FIVE);
        put(on, FRISBEE, 1, 0);
        Trial.due("a frisbee on a slope to the back", on.thing(FRISBEE, 3), 0);
        Trial.due("it rolls one step: back", on.gale(3), 0);
        on.undo();
        on.undo();
        put(on, BALL, 1, 1);
        Trial.due("a ball rolls on and on: over", on.gale(1), 1);
        Trial.due("the ball is over", on.thing(BALL, 3), 65);
    }

    private static void passing() {
        GutterNine g = Trial.of("fp ff", FIVE + "damage days + lost; temper value;");
        Trial.due("days(1)", g.days(1), 1);
        put(g, BALL, 1, 0);
        put(g, SHOE, 0, 0);
        Trial.due("days(2)", g.days(2), 3);
        Trial.due("damage on two days: 1 + 2, 2 + 2", g.count(9), 7);
        g.days(2);
        Trial.due("damage on two more: 3 + 2, 4 + 2", g.count(9), 18);
        Trial.due("Saturday is not passed", g.count(4), 3);
        Trial.due("till Saturday", g.await(0), 1);
        Trial.due("what it brings: 12 less 7 and 12", g.await(1), 12 - 7 - 12);
        Trial.due("days(1) of Saturday", g.days(1), 6);
        Trial.due("paid: 5 + 2, 12", g.count(9), 37);
        Trial.due("all in hand", g.count(4), 5);
        Trial.due("who threw it last is still known", g.thing(BALL, 4), 0);
        Trial.due("till the next Saturday", g.await(0), 7);
        Trial.due("days(0)", g.days(0), NONE);
        Trial.due("days(101)", g.days(101), NONE);
        Trial.due("days(-1)", g.days(-1), NONE);
        Trial.due("days(100)", g.days(100), 106);
        Trial.due("nothing more is paid", g.count(9), 37);

        GutterNine plain = Trial.of("fp ff", FIVE);
        put(plain, BALL, 1, 0);
        put(plain, SHOE, 0, 0);
        put(plain, STICK, 1, 1);
        plain.toss(0, FRISBEE, 0, 0, 2);
        plain.days(5);
        Trial.due("without damage: 1", plain.count(9), 5);
        plain.days(1);
        Trial.due("without temper: lost", plain.count(9), 6 + 3);
        Trial.due("what is over stays over", plain.count(6), 1);
        plain.days(7);
        Trial.due("over alone costs nothing", plain.count(9), 9);
        for (int first = 0; first <= 6; first++) {
            GutterNine week = Trial.of("ff ff", "first " + first + ";");
            Trial.due("first " + first, week.await(0), first <= 5 ? 6 - first : 7);
        }
        Trial.dueToThrow("await(2)", () -> plain.await(2));
        Trial.dueToThrow("await(-1)", () -> plain.await(-1));
    }

    private static void fetching() {
        GutterNine g = Trial.of("uu ff", FIVE);
        put(g, BALL, 0, 0);
        put(g, SECOND, 1, 0);
        put(g, SHOE, 0, 1);
        Trial.due("count(6)", g.count(6), 2);
        Trial.due("fetch(2)", g.fetch(2), NONE);
        Trial.due("fetch(-1)", g.fetch(-1), NONE);
        Trial.due("fetch(1)", g.fetch(1), 2);
        Trial.due("the rest stays", g.count(5), 1);
        Trial.due("fetch(0)", g.fetch(0), 0);
        Trial.due("count(10)", g.count(10), 5);
        g.undo();
        g.undo();
        Trial.due("over again", g.count(6), 2);
    }

    private static void undoing() {
        GutterNine g = Trial.of("fp ff", FIVE + "window 0 0 reach 8;");
        put(g, BALL, 0, 0);
        put(g, SHOE, 1, 0);
        g.gale(0);
        g.days(3);
        g.hose(0);
        g.broom();
        g.see(0, 3);
        Trial.due("count(10)", g.count(10), 6);
        Trial.due("undo of the broom", g.undo(), true);
        Trial.due("the ball is there again", g.thing(BALL, 3), 8);
        Trial.due("what is SEEN is not undone", g.count(11), 1);
        g.undo();
        Trial.due("undo of three days", g.undo(), true);
        Trial.due("today", g.count(8), 0);
        Trial.due("paid", g.count(9), 0);
        g.undo();
        Trial.due("undo of the gale", g.thing(BALL, 3), 0);
        g.undo();
        Trial.due("undo of a throw: the pipe is free", g.tile(1, 0, 1), NONE);
        Trial.due("nobody threw it", g.thing(SHOE, 4), NONE);
        Trial.due("undo", g.undo(), true);
        Trial.due("nothing can be undone", g.undo(), false);
        for (int i = 0; i < 20; i++) {
            g.days(1);
        }
        Trial.due("16 at most", g.count(10), 16);
        for (int i = 0; i < 16; i++) {
            Trial.due("undo " + i, g.undo(), true);
            Trial.due("today", g.count(8), 19 - i);
        }
        Trial.due("no more", g.undo(), false);
        Trial.due("four days stay", g.count(8), 4);
        g.toss(9, 0, 0, 0, 0);
        g.gale(7);
        g.days(0);
        g.hose(5);
        g.fetch(7);
        Trial.due("what was refused can't be undone", g.count(10), 0);
    }
}
