/** Sections 2 and 3, hoses, brooms, gales, DAYS, fetching, UNDO, and what these would bring: a test for each edge. */
public final class WeatherEdgesTest {
    private static final int NONE = GutterNine.NONE;
    private static final int BALL = 0;
    private static final int SHOE = 1;
    private static final int FRISBEE = 2;
    private static final int STICK = 3;
    private static final int BALL2 = 4;
    private static final int SHOE2 = 5;
    private static final int FRISBEE2 = 6;
    private static final int STICK2 = 7;
    private static final String EIGHT = "person a arm 10;person b arm 0;thing ba ball of a worth 1;"
        + "thing sh shoe of a worth 2;thing fr frisbee of b worth 4;thing st stick of b worth 8;"
        + "thing bb ball of b worth 16;thing si shoe of b worth 32;thing fs frisbee of a worth 64;"
        + "thing sc stick of a worth 96;";

    public static void main(String[] args) {
        inAGutterThere();
        nearestFirst();
        nearerPipe();
        washedIntoIt();
        whatStopsTheWater();
        noRow();
        washedBits();
        noMoreThanReach();
        onTheRoofAlone();
        noWindow();
        ballsAndFrisbees();
        byNumbers();
        mossAndGuttersHold();
        comesToTheNextCell();
        rollsIfItCame();
        movedIsElsewhere();
        noSuchWay();
        blownAllTogether();
        damageOfAPipe();
        onASaturday();
        fatherBringsAll();
        firstDayOfTheWeek();
        manyDays();
        awaitTillItHasPassed();
        fetchesAll();
        whatIsUndone();
        theLastSixteen();
        Trial.end();
    }

    private static GutterNine of(String rows) {
        return Trial.of(rows, EIGHT);
    }

    private static int put(GutterNine g, int thing, int x, int y) {
        int at = g.toss(0, thing, x, y, 0);
        Trial.due("put " + thing + " at " + x + ", " + y, at >= 0, true);
        return at;
    }

    private static int bits(int... things) {
        int all = 0;
        for (int thing : things) {
            all |= 1 << thing;
        }
        return all;
    }

    private static void inAGutterThere() {
        Trial.says("HOSE along a row: each THING in a gutter there");
        GutterNine g = of("ggpgg fmpgf ggpgg");
        put(g, SHOE, 1, 1);
        put(g, STICK, 0, 1);
        put(g, BALL, 4, 1);
        put(g, SHOE2, 1, 0);
        put(g, STICK2, 3, 2);
        Trial.due("none in a gutter of that row", g.hose(1), 0);
        put(g, FRISBEE, 3, 1);
        Trial.due("one", g.hose(1), 1);
        Trial.due("it is in the pipe", g.tile(2, 1, 1), FRISBEE);
        Trial.due("the row above stays", g.thing(SHOE2, 3), 1);
        Trial.due("the row below stays", g.thing(STICK2, 3), 19);
        Trial.due("what is in the pipe stays", g.hose(1), 0);
        Trial.due("the first row", g.hose(0), 1);
        Trial.due("the last row", g.hose(2), 1);
    }

    private static void nearestFirst() {
        Trial.says("the nearest to a pipe of that row first (of equal ones the left one)");
        GutterNine g = of("ffffffff gggpgggg");
        put(g, SHOE, 1, 1);
        put(g, STICK, 4, 1);
        put(g, BALL, 0, 1);
        Trial.due("all three", g.hose(1), 3);
        Trial.due("the nearest, to the right", g.tile(3, 1, 1), STICK);
        Trial.due("the others fell", g.count(4), 7);
        GutterNine left = of("ffffffff gggpgggg");
        put(left, SHOE, 5, 1);
        put(left, STICK, 2, 1);
        put(left, BALL, 4, 1);
        Trial.due("all three", left.hose(1), 3);
        Trial.due("of equal ones the left one", left.tile(3, 1, 1), STICK);
        GutterNine two = of("ffffffff pgggggpg");
        put(two, SHOE, 2, 1);
        put(two, STICK, 1, 1);
        put(two, BALL, 7, 1);
        put(two, FRISBEE, 5, 1);
        Trial.due("two pipes, four THINGS", two.hose(1), 4);
        Trial.due("in the left pipe", two.tile(0, 1, 1), STICK);
        Trial.due("of equal ones at the right pipe the left one", two.tile(6, 1, 1), FRISBEE);
        GutterNine row = of("fffffff gggpggg");
        int[] things = {SHOE, SHOE2, STICK, STICK2, BALL, BALL2};
        int[] xs = {0, 6, 1, 5, 2, 4};
        for (int i = 0; i < 6; i++) {
            put(row, things[i], xs[i], 1);
        }
        Trial.due("a full gutter", row.hose(1), 6);
        Trial.due("the left one of the nearest", row.tile(3, 1, 1), BALL);
        Trial.due("all others fell", row.count(4), 7);
    }

    private static void nearerPipe() {
        Trial.says("to the nearer pipe, of equal ones the left one");
        GutterNine g = of("fffffff pgggggp");
        int[] wants = {0, 0, 0, 6, 6};
        for (int x = 1; x <= 5; x++) {
            put(g, SHOE, x, 1);
            g.hose(1);
            Trial.due("from " + x, g.tile(wants[x - 1], 1, 1), SHOE);
            g.undo();
            g.undo();
        }
        put(g, STICK, 0, 1);
        put(g, SHOE, 2, 1);
        Trial.due("the nearer one is full", g.hose(1), 1);
        Trial.due("it falls all the same", g.thing(SHOE, 3), 64);
        GutterNine stopped = of("fffffff pfggggp");
        put(stopped, SHOE, 2, 1);
        put(stopped, STICK, 3, 1);
        Trial.due("the nearer one can't be come to", stopped.hose(1), 0);
        put(stopped, BALL, 4, 1);
        Trial.due("the other one's own", stopped.hose(1), 1);
        Trial.due("in the right one", stopped.tile(6, 1, 1), BALL);
        GutterNine inner = of("ffffffff gpgggggp");
        int[] inners = {1, 1, 1, 1, 1, 7, 7};
        for (int x = 0; x < 7; x++) {
            if (x != 1) {
                put(inner, SHOE, x, 1);
                inner.hose(1);
                Trial.due("to 1 or 7 from " + x, inner.tile(inners[x], 1, 1), SHOE);
                inner.undo();
                inner.undo();
            }
        }
        GutterNine three = of("ffffffff ggpgpggp");
        int[] threes = {2, 2, 2, 2, 4, 4, 7};
        for (int x : new int[] {0, 1, 3, 5, 6}) {
            put(three, SHOE, x, 1);
            three.hose(1);
            Trial.due("to 2, 4 or 7 from " + x, three.tile(threes[x], 1, 1), SHOE);
            three.undo();
            three.undo();
        }
        GutterNine far = of("ffffffff pggggggg");
        put(far, SHOE, 7, 1);
        Trial.due("seven CELLS to the left", far.hose(1), 1);
        Trial.due("in it", far.tile(0, 1, 1), SHOE);
        GutterNine right = of("gggggggp ffffffff");
        put(right, SHOE, 0, 0);
        Trial.due("seven CELLS to the right", right.hose(0), 1);
        Trial.due("in it", right.tile(7, 0, 1), SHOE);
    }

    private static void washedIntoIt() {
        Trial.says("is washed CELL by CELL through gutters to it, and into it (as it COMES TO it)");
        GutterNine g = of("ggp fff");
        put(g, SHOE, 1, 0);
        put(g, STICK, 0, 0);
        Trial.due("both", g.hose(0), 2);
        Trial.due("the first into it", g.thing(SHOE, 3), 66);
        Trial.due("the second falls", g.thing(STICK, 3), 64);
        put(g, STICK, 0, 0);
        Trial.due("the pipe was full ahead", g.hose(0), 1);
        Trial.due("it falls, too", g.thing(STICK, 3), 64);
        Trial.due("the shoe stays", g.tile(2, 0, 1), SHOE);
        GutterNine kinds = of("gggp ffff");
        for (int thing = 0; thing < 8; thing++) {
            put(kinds, thing, 0, 0);
            Trial.due("all kinds alike", kinds.hose(0), 1);
            Trial.due("into it", kinds.thing(thing, 3), 66);
            kinds.undo();
            kinds.undo();
        }
    }

    private static void whatStopsTheWater() {
        Trial.says("what is no gutter, or has a THING, stops it");
        for (char stop : "fdulrmc".toCharArray()) {
            GutterNine g = of("ggg" + stop + "p fffff");
            put(g, SHOE, 0, 0);
            Trial.due("ahead of " + stop, g.hose(0), 1);
            Trial.due("it lies there", g.thing(SHOE, 3), 2);
            Trial.due("once more", g.hose(0), 0);
            put(g, STICK, 1, 0);
            put(g, BALL, 0, 0);
            Trial.due("ahead of a THING", g.hose(0), 0);
        }
        GutterNine things = of("ggggfp ffffff");
        put(things, SHOE, 3, 0);
        put(things, STICK, 0, 0);
        put(things, BALL, 1, 0);
        Trial.due("two of three", things.hose(0), 2);
        Trial.due("the nearest stays", things.thing(SHOE, 3), 3);
        Trial.due("the next", things.thing(BALL, 3), 2);
        Trial.due("the last", things.thing(STICK, 3), 1);
        GutterNine flat = of("fggp ffff");
        put(flat, SHOE, 0, 0);
        Trial.due("what lies on no gutter is not washed", flat.hose(0), 0);
    }

    private static void noRow() {
        Trial.says("hose: NONE: no such row; HOSE along a row without a pipe moves nothing");
        GutterNine g = of("ggg ggg");
        put(g, SHOE, 0, 0);
        put(g, STICK, 2, 1);
        Trial.due("no pipe", g.hose(0), 0);
        Trial.due("no pipe", g.hose(1), 0);
        Trial.due("it can be undone", g.count(10), 4);
        String ahead = Trial.all(g);
        for (int row : new int[] {-1, 2, 7, 8, Integer.MIN_VALUE, Integer.MAX_VALUE}) {
            Trial.due("hose(" + row + ")", g.hose(row), NONE);
            Trial.due("washed(" + row + ", 0)", g.washed(row, 0), NONE);
            Trial.due("washed(" + row + ", 1)", g.washed(row, 1), NONE);
        }
        for (int what : new int[] {-1, 2, Integer.MIN_VALUE, Integer.MAX_VALUE}) {
            Trial.due("washed(0, " + what + ")", g.washed(0, what), NONE);
        }
        Trial.due("nothing came of it", Trial.all(g), ahead);
    }

    private static void washedBits() {
        Trial.says("WASHED: THINGS that would be in hand, that would be in pipes (bits of those that were not)");
        GutterNine g = of("ggpgg fffpf");
        Trial.due("nothing, in hand", g.washed(0, 0), 0);
        Trial.due("nothing, in pipes", g.washed(0, 1), 0);
        put(g, STICK2, 3, 1);
        put(g, STICK, 1, 0);
        put(g, SHOE, 3, 0);
        put(g, BALL, 4, 0);
        Trial.due("in hand", g.washed(0, 0), bits(SHOE, BALL));
        Trial.due("in pipes", g.washed(0, 1), bits(STICK));
        Trial.due("the other row", g.washed(1, 0) + g.washed(1, 1), 0);
        String ahead = Trial.all(g);
        g.washed(0, 0);
        Trial.due("nothing is done", Trial.all(g), ahead);
        Trial.due("hose(0)", g.hose(0), 3);
        Trial.due("what was in the pipe is no news", g.washed(0, 1), 0);
    }

    private static void noMoreThanReach() {
        Trial.says("BROOM: all THINGS on the roof that are no more than reach from the window (|x - x| + |y - y|)");
        String rows = "fffffff fffffff fffffff fffffff fffffff fffffff fffffff";
        for (int reach = 0; reach <= 8; reach++) {
            GutterNine g = Trial.of(rows, EIGHT + "window 3 3 reach " + reach + ";");
            for (int cell = 0; cell < 49; cell++) {
                int x = cell % 7;
                int y = cell / 7;
                int away = Math.abs(x - 3) + Math.abs(y - 3);
                put(g, SHOE, x, y);
                Trial.due("reach " + reach + ", away " + away, g.broom(), away <= reach ? bits(SHOE) : 0);
                Trial.due("where it is", g.thing(SHOE, 3), away <= reach ? 64 : y * 8 + x);
                g.undo();
                g.undo();
            }
        }
        GutterNine far = Trial.of("ff ff", EIGHT + "window 7 7 reach 8;");
        put(far, SHOE, 1, 1);
        Trial.due("12 away", far.broom(), 0);
        put(far, BALL, 0, 0);
        Trial.due("14 away", far.broom(), 0);
        GutterNine all = Trial.of("ffff ffff", EIGHT + "window 0 0 reach 4;");
        for (int thing = 0; thing < 8; thing++) {
            put(all, thing, thing % 4, thing / 4);
        }
        Trial.due("all eight, as bits", all.broom(), 255);
        GutterNine beyond = Trial.of("ff ff", EIGHT + "window 5 0 reach 5;");
        put(beyond, SHOE, 0, 0);
        put(beyond, STICK2, 0, 1);
        Trial.due("a window beyond the roof", beyond.broom(), bits(SHOE));
    }

    private static void onTheRoofAlone() {
        Trial.says("BROOM: all THINGS on the roof .. are in hand");
        GutterNine g = Trial.of("fpff ffff", EIGHT + "window 0 0 reach 8;");
        put(g, SHOE, 1, 0);
        g.toss(0, BALL, 0, 0, 2);
        Trial.due("neither what is in a pipe nor what is over", g.broom(), 0);
        Trial.due("in the pipe", g.thing(SHOE, 3), 66);
        Trial.due("over", g.thing(BALL, 3), 65);
        int[] things = {FRISBEE, STICK, BALL2, SHOE2, FRISBEE2, STICK2};
        int[] cells = {0, 2, 3, 4, 5, 6};
        for (int i = 0; i < 6; i++) {
            put(g, things[i], cells[i] % 4, cells[i] / 4);
        }
        Trial.due("all six", g.broom(), 255 - bits(SHOE, BALL));
        Trial.due("count(4)", g.count(4), 6);
        Trial.due("the CELLS are free", g.tile(0, 0, 1), NONE);
    }

    private static void noWindow() {
        Trial.says("broom: NONE: there is no window");
        GutterNine g = of("ff ff");
        put(g, SHOE, 0, 0);
        String ahead = Trial.all(g);
        Trial.due("broom()", g.broom(), NONE);
        Trial.due("nothing came of it", Trial.all(g), ahead);
        GutterNine with = Trial.of("ff ff", EIGHT + "window 0 0 reach 0;");
        Trial.due("nothing there", with.broom(), 0);
        Trial.due("it can be undone", with.count(10), 1);
    }

    private static void ballsAndFrisbees() {
        Trial.says("GALE to a way: each ball and frisbee on the roof");
        GutterNine g = of("fffff fffff fffff");
        int[] xs = {0, 1, 3, 4};
        for (int thing = 0; thing < 4; thing++) {
            put(g, thing, xs[thing], 1);
        }
        int[][] wants = {{16, 9, 19, 12}, {0, 9, 3, 12}, {64, 9, 10, 12}, {8, 9, 11, 12}};
        int[] moved = {2, 2, 2, 0};
        for (int way = 0; way < 4; way++) {
            Trial.due("gale(" + way + ")", g.gale(way), moved[way]);
            for (int thing = 0; thing < 4; thing++) {
                Trial.due("THING " + thing + ", way " + way, g.thing(thing, 3), wants[way][thing]);
            }
            g.undo();
        }
        GutterNine off = of("fp ff");
        put(off, BALL, 1, 0);
        off.toss(0, FRISBEE, 0, 0, 2);
        for (int way = 0; way < 4; way++) {
            Trial.due("in a pipe, over, in hand: way " + way, off.gale(way), 0);
        }
    }

    private static void byNumbers() {
        Trial.says("by numbers");
        GutterNine g = of("ffff ffff");
        put(g, BALL, 1, 0);
        put(g, BALL2, 2, 0);
        Trial.due("the first is in its own way", g.gale(2), 2);
        Trial.due("the ball", g.thing(BALL, 3), 0);
        Trial.due("the other ball", g.thing(BALL2, 3), 1);
        g.undo();
        Trial.due("the first is stopped by the second", g.gale(3), 1);
        Trial.due("the ball", g.thing(BALL, 3), 1);
        Trial.due("the other ball", g.thing(BALL2, 3), 3);
        GutterNine pipe = of("fpf fff");
        put(pipe, FRISBEE, 0, 0);
        put(pipe, BALL2, 0, 1);
        Trial.due("to the street: the frisbee is stopped, the ball falls", pipe.gale(0), 1);
        Trial.due("to the right, into the pipe", pipe.gale(3), 1);
        Trial.due("the frisbee", pipe.thing(FRISBEE, 3), 66);
    }

    private static void mossAndGuttersHold() {
        Trial.says("not on moss, in a gutter");
        GutterNine g = of("mgf fff");
        put(g, BALL, 0, 0);
        put(g, FRISBEE, 1, 0);
        for (int way = 0; way < 4; way++) {
            Trial.due("way " + way, g.gale(way), 0);
        }
        put(g, BALL2, 1, 1);
        put(g, FRISBEE2, 2, 0);
        g.gale(2);
        Trial.due("from the flat", g.thing(BALL2, 3), 8);
        Trial.due("stopped by what lies in the gutter", g.thing(FRISBEE2, 3), 2);
        GutterNine onto = of("gm ff");
        put(onto, BALL, 0, 1);
        put(onto, FRISBEE, 1, 1);
        Trial.due("on moss and in a gutter they come", onto.gale(1), 2);
        Trial.due("and stay there", onto.gale(1), 0);
    }

    private static void comesToTheNextCell() {
        Trial.says("GALE: it COMES TO the next CELL that way");
        GutterNine g = of("ff ff");
        int[][] from = {{0, 1}, {1, 0}, {0, 0}, {1, 1}};
        int[] wants = {64, 65, 64, 64};
        for (int way = 0; way < 4; way++) {
            put(g, BALL, from[way][0], from[way][1]);
            Trial.due("off the roof, way " + way, g.gale(way), 1);
            Trial.due("where it is", g.thing(BALL, 3), wants[way]);
            g.undo();
            g.undo();
        }
        GutterNine around = of("fpf pfp fpf");
        int[] pipes = {17, 1, 8, 10};
        for (int way = 0; way < 4; way++) {
            put(around, FRISBEE, 1, 1);
            Trial.due("into a pipe, way " + way, around.gale(way), 1);
            Trial.due("that pipe", around.tile(pipes[way] % 8, pipes[way] / 8, 1), FRISBEE);
            put(around, BALL, 1, 1);
            Trial.due("a full one, way " + way, around.gale(way), 1);
            Trial.due("it falls", around.thing(BALL, 3), 64);
            around.undo();
            around.undo();
            around.undo();
            around.undo();
        }
    }

    private static void rollsIfItCame() {
        Trial.says("GALE: .. and ROLLS if it came to a CELL");
        GutterNine g = of("frrf ffff");
        put(g, BALL, 0, 0);
        put(g, SHOE2, 1, 1);
        Trial.due("it came and rolled", g.gale(3), 1);
        Trial.due("to the end", g.thing(BALL, 3), 3);
        put(g, FRISBEE, 0, 0);
        g.gale(3);
        Trial.due("a frisbee rolls one step", g.thing(FRISBEE, 3), 2);
        GutterNine stays = Trial.of("frf fcf", EIGHT + "window 2 0 reach 0;");
        put(stays, SHOE, 2, 0);
        put(stays, BALL, 1, 0);
        Trial.due("stopped by the shoe on its slope", stays.thing(BALL, 3), 1);
        Trial.due("the shoe is gone", stays.broom(), bits(SHOE));
        Trial.due("it does not come, and does not roll", stays.gale(0), 0);
        Trial.due("it is there", stays.thing(BALL, 3), 1);
        Trial.due("to the right it goes", stays.gale(3), 1);
    }

    private static void movedIsElsewhere() {
        Trial.says("gale: how many it moved");
        GutterNine g = of("fl ff");
        put(g, BALL, 0, 0);
        Trial.due("rolled back: not moved", g.gale(3), 0);
        Trial.due("it can be undone", g.count(10), 2);
        Trial.due("nothing on the roof", of("ff ff").gale(0), 0);
        GutterNine none = Trial.of("ff ff", "");
        Trial.due("no THINGS at all", none.gale(0), 0);
        Trial.due("it can be undone", none.undo(), true);
        GutterNine all = of("ffff ffff");
        int[] things = {BALL, BALL2, FRISBEE, FRISBEE2};
        for (int i = 0; i < 4; i++) {
            put(all, things[i], i, 1);
        }
        Trial.due("all four", all.gale(0), 4);
    }

    private static void noSuchWay() {
        Trial.says("gale: NONE: others (0 street, 1 back, 2 left, 3 right)");
        GutterNine g = of("fff fff fff");
        put(g, BALL, 1, 1);
        String ahead = Trial.all(g);
        for (int way : new int[] {-1, 4, 5, Integer.MIN_VALUE, Integer.MAX_VALUE}) {
            Trial.due("gale(" + way + ")", g.gale(way), NONE);
        }
        for (int what : new int[] {-1, 2, Integer.MIN_VALUE, Integer.MAX_VALUE}) {
            Trial.due("blown(" + what + ")", g.blown(what), NONE);
        }
        Trial.due("nothing came of it", Trial.all(g), ahead);
    }

    private static void blownAllTogether() {
        Trial.says("BLOWN: of the four GALES, each from now, how many come into hand all together; the way (the first)");
        GutterNine none = of("fff fff fff");
        Trial.due("nothing there", none.blown(0), 0);
        Trial.due("the first way", none.blown(1), 0);
        put(none, BALL, 1, 1);
        Trial.due("none comes", none.blown(0), 0);
        Trial.due("the first way", none.blown(1), 0);
        GutterNine corner = of("fff fff fff");
        put(corner, BALL, 2, 2);
        Trial.due("by two ways", corner.blown(0), 2);
        Trial.due("the first of equal ones", corner.blown(1), 0);
        put(corner, FRISBEE, 2, 1);
        Trial.due("three", corner.blown(0), 3);
        Trial.due("most to the right", corner.blown(1), 3);
        GutterNine over = of("fff fff fff");
        put(over, BALL, 1, 0);
        Trial.due("over is not in hand", over.blown(0), 0);
        put(over, FRISBEE, 0, 1);
        String ahead = Trial.all(over);
        Trial.due("to the left", over.blown(1), 2);
        Trial.due("nothing is done", Trial.all(over), ahead);
    }

    private static void damageOfAPipe() {
        Trial.says("A DAY passes: if a pipe has a THING the E of damage is paid");
        GutterNine g = Trial.of("pp ff", EIGHT + "damage 7;temper 0;");
        g.days(1);
        Trial.due("no pipe has one", g.count(9), 0);
        put(g, SHOE, 0, 1);
        g.days(1);
        Trial.due("on the roof is not in a pipe", g.count(9), 0);
        put(g, STICK, 0, 0);
        g.days(1);
        Trial.due("one", g.count(9), 7);
        put(g, BALL, 1, 0);
        g.days(1);
        Trial.due("two pipes, once", g.count(9), 14);
        g.days(2);
        Trial.due("Saturday, too", g.count(9), 28);
        g.days(1);
        Trial.due("behind Saturday no more", g.count(9), 28);
    }

    private static void onASaturday() {
        Trial.says("on a Saturday, if something is on the roof or in a pipe, father brings it: E of temper is paid");
        GutterNine g = Trial.of("fp ff", EIGHT + "first 5;damage 0;temper 9;");
        g.days(1);
        Trial.due("nothing is there", g.count(9), 0);
        g.toss(0, BALL, 0, 0, 2);
        g.days(7);
        Trial.due("what is over does not count", g.count(9), 0);
        Trial.due("it stays over", g.count(6), 1);
        put(g, SHOE, 0, 0);
        g.days(6);
        Trial.due("six days: no Saturday", g.count(9), 0);
        Trial.due("it is still there", g.count(5), 1);
        g.days(1);
        Trial.due("something on the roof", g.count(9), 9);
        put(g, SHOE, 1, 0);
        g.days(7);
        Trial.due("something in a pipe", g.count(9), 18);
        put(g, SHOE, 1, 0);
        put(g, STICK, 0, 0);
        g.days(7);
        Trial.due("both: once", g.count(9), 27);
        Trial.due("all but one in hand", g.count(4), 7);
    }

    private static void fatherBringsAll() {
        Trial.says("father brings it all into hand");
        GutterNine g = Trial.of("fppf ffff", EIGHT + "first 4;");
        for (int thing = 0; thing < 8; thing++) {
            put(g, thing, thing % 4, thing / 4);
        }
        g.days(1);
        Trial.due("on Friday none", g.count(4), 0);
        Trial.due("two pipes", g.count(7), 2);
        g.days(1);
        Trial.due("on Saturday all", g.count(4), 8);
        for (int cell = 0; cell < 8; cell++) {
            Trial.due("nothing there", g.tile(cell % 4, cell / 4, 1), NONE);
        }
        Trial.due("who threw it is known", g.thing(SHOE, 4), 0);
        Trial.due("1 for each day, 8 for all", g.count(9), 2 + 8);
        Trial.due("the pipe is free", put(g, SHOE2, 1, 0), 66);
    }

    private static void firstDayOfTheWeek() {
        Trial.says("(Day 0 is a first day of the week as told, 0 a Monday.)");
        for (int first = 0; first <= 6; first++) {
            GutterNine g = Trial.of("ff ff", EIGHT + "temper 1;first " + first + ";");
            for (int day = 0; day < 30; day++) {
                put(g, SHOE, 0, 0);
                int paid = g.count(9);
                Trial.due("today", g.days(1), day + 1);
                boolean saturday = (first + day) % 7 == 5;
                Trial.due("first " + first + ", day " + day, g.count(9) - paid, saturday ? 1 : 0);
                if (!saturday) {
                    g.undo();
                    g.undo();
                    g.days(1);
                }
            }
        }
    }

    private static void manyDays() {
        Trial.says("days: So many DAYS (1 to 100): today then; NONE: others");
        for (int many : new int[] {1, 2, 50, 99, 100}) {
            GutterNine g = Trial.of("fp ff", EIGHT + "temper 3;");
            put(g, SHOE, 1, 0);
            Trial.due("days(" + many + ")", g.days(many), many);
            Trial.due("count(8)", g.count(8), many);
            Trial.due("paid", g.count(9), Math.min(many, 6) + (many >= 6 ? 3 : 0));
            Trial.due("100 more", g.days(100), many + 100);
        }
        GutterNine g = Trial.of("fp ff", EIGHT);
        put(g, SHOE, 1, 0);
        String ahead = Trial.all(g);
        for (int many : new int[] {0, -1, 101, 102, Integer.MIN_VALUE, Integer.MAX_VALUE}) {
            Trial.due("days(" + many + ")", g.days(many), NONE);
        }
        Trial.due("nothing came of it", Trial.all(g), ahead);
    }

    private static void awaitTillItHasPassed() {
        Trial.says("AWAIT: DAYS till a Saturday has passed; what all in hand is worth more then, less what is paid till then");
        GutterNine g = Trial.of("fp ff", EIGHT + "damage 2;temper 10;");
        put(g, SHOE2, 0, 0);
        for (int day = 0; day < 15; day++) {
            Trial.due("days from day " + day, g.await(0), day % 7 <= 5 ? 6 - day % 7 : 7);
            Trial.due("the shoe, less 10", g.await(1), day <= 5 ? 32 - 10 : 0);
            g.days(1);
        }
        put(g, SHOE, 1, 0);
        g.toss(0, STICK2, 0, 0, 2);
        Trial.due("five days from Tuesday", g.await(0), 5);
        Trial.due("2 for each day, 10, the shoe; what is over stays", g.await(1), 2 - 5 * 2 - 10);
        String ahead = Trial.all(g);
        for (int what : new int[] {-1, 2, Integer.MIN_VALUE, Integer.MAX_VALUE}) {
            Trial.dueToThrow("await(" + what + ")", () -> g.await(what));
        }
        Trial.due("nothing is done", Trial.all(g), ahead);
        GutterNine none = Trial.of("ff ff", "");
        Trial.due("nothing at all", none.await(1), 0);
    }

    private static void fetchesAll() {
        Trial.says("FETCH: a PERSON fetches all that is over");
        GutterNine g = of("ff fp");
        Trial.due("nothing is over", g.fetch(0), 0);
        Trial.due("it can be undone", g.count(10), 1);
        for (int thing = 0; thing < 6; thing++) {
            g.toss(0, thing, 0, 0, 2);
        }
        put(g, FRISBEE2, 0, 1);
        put(g, STICK2, 1, 1);
        String ahead = Trial.all(g);
        for (int person : new int[] {-1, 2, 3, 4, Integer.MIN_VALUE, Integer.MAX_VALUE}) {
            Trial.due("fetch(" + person + ")", g.fetch(person), NONE);
        }
        Trial.due("nothing came of it", Trial.all(g), ahead);
        Trial.due("another one's too", g.fetch(1), 6);
        Trial.due("in hand", g.count(4), 6);
        Trial.due("on the roof", g.count(5), 1);
        Trial.due("in a pipe", g.count(7), 1);
        Trial.due("who threw it stays", g.thing(BALL, 4), 0);
        Trial.due("nobody", Trial.of("ff ff", "").fetch(0), NONE);
    }

    private static void whatIsUndone() {
        Trial.says("UNDO: throws, hoses, brooms, gales, DAYS, fetching by hand");
        GutterNine g = Trial.of("ffff gggp", EIGHT + "window 0 0 reach 0;temper lost;");
        Trial.due("nothing yet", g.undo(), false);
        String[] ahead = new String[8];
        for (int step = 0; step < 8; step++) {
            ahead[step] = Trial.all(g);
            switch (step) {
                case 0: put(g, SHOE, 0, 0); break;
                case 1: put(g, BALL, 0, 0); break;
                case 2: g.hose(1); break;
                case 3: g.broom(); break;
                case 4: g.toss(1, FRISBEE, 2, 0, 2); break;
                case 5: g.fetch(0); break;
                case 6: put(g, BALL2, 2, 0); break;
                default: g.gale(3); g.days(9); break;
            }
            Trial.due("step " + step + " changed something", Trial.all(g).equals(ahead[step]), false);
        }
        Trial.due("nine steps", g.count(10), 9);
        Trial.due("undo of nine days", g.undo(), true);
        Trial.due("day 0 is today", g.count(8), 0);
        Trial.due("nothing is paid", g.count(9), 0);
        Trial.due("in the pipe again", g.count(7), 1);
        for (int step = 7; step >= 0; step--) {
            Trial.due("undo of step " + step, g.undo(), true);
            Trial.due("all as it was", Trial.all(g), ahead[step]);
        }
        String first = Trial.all(g);
        Trial.due("nothing can be", g.undo(), false);
        Trial.due("nothing came of it", Trial.all(g), first);
        g.see(0, 1);
        g.mark(0, false);
        Trial.feed(g, "net");
        Trial.due("what else is done is no step", g.undo(), false);
    }

    private static void theLastSixteen() {
        Trial.says("UNDO: .. the last 16, one by one");
        for (int steps = 14; steps <= 35; steps++) {
            GutterNine g = of("ff ff");
            for (int i = 0; i < steps; i++) {
                g.days(1);
            }
            int most = Math.min(16, steps);
            Trial.due("count(10) behind " + steps, g.count(10), most);
            for (int i = 1; i <= most; i++) {
                Trial.due("undo " + i, g.undo(), true);
                Trial.due("today", g.count(8), steps - i);
                Trial.due("count(10)", g.count(10), most - i);
            }
            Trial.due("no more", g.undo(), false);
            Trial.due("today", g.count(8), steps - most);
            g.days(2);
            Trial.due("a new step", g.count(10), 1);
            Trial.due("it is undone", g.undo(), true);
            Trial.due("today", g.count(8), steps - most);
        }
    }
}
