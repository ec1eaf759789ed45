/** Section 2 of the document, places, ROLLS and THROWS: each sentence that names an edge has its own test. */
public final class RoofEdgesTest {
    private static final int NONE = GutterNine.NONE;
    private static final int BALL = 0;
    private static final int SHOE = 1;
    private static final int FRISBEE = 2;
    private static final int STICK = 3;
    private static final int BALL2 = 4;
    private static final int SHOE2 = 5;
    private static final int FRISBEE2 = 6;
    private static final int STICK2 = 7;
    private static final String EIGHT = "person a arm 10;person b arm 0;thing ba ball of a worth 1;"
        + "thing sh shoe of a worth 2;thing fr frisbee of b worth 4;thing st stick of b worth 8;"
        + "thing bb ball of b worth 16;thing si shoe of b worth 32;thing fs frisbee of a worth 64;"
        + "thing sc stick of a worth 96;";
    private static final String FLAT = "ffffffff ffffffff ffffffff ffffffff ffffffff ffffffff ffffffff ffffffff";

    public static void main(String[] args) {
        numbersOfCells();
        oneAtMostOnEach();
        oneAtMostInEachPipe();
        beyondTheLastRowAndToASide();
        beyondTheRidge();
        chimneysAndThingsStop();
        pipesTakeOne();
        shoesAndSticksDoNotRoll();
        frisbeesRollOneStep();
        ballsRollOnAndOn();
        bySlopes();
        flatMossGutterStop();
        notWhereItWasInThisRoll();
        aRollBeginsAnew();
        throwsOfThingsInHand();
        slips();
        landingBesideTheRoof();
        landingOnChimneysAndPipes();
        landingOnAFreeCell();
        knockedAStep();
        knockedByAStick();
        knockedAndRolls();
        knockedAndDoesNotRoll();
        stillThere();
        elseItLiesThere();
        Trial.end();
    }

    private static GutterNine of(String rows) {
        return Trial.of(rows, EIGHT);
    }

    private static int put(GutterNine g, int thing, int x, int y) {
        return g.toss(0, thing, x, y, 0);
    }

    private static void numbersOfCells() {
        Trial.says("A THING is on a CELL (y * 8 + x; y 0 is the ridge's row), in hand (64), over (65), in a pipe (66)");
        GutterNine g = of(FLAT);
        for (int cell = 0; cell < 64; cell++) {
            Trial.due("toss", put(g, SHOE, cell % 8, cell / 8), cell);
            Trial.due("thing(1, 3)", g.thing(SHOE, 3), cell);
            Trial.due("tile", g.tile(cell % 8, cell / 8, 1), SHOE);
            g.undo();
            Trial.due("free again", g.tile(cell % 8, cell / 8, 1), NONE);
            Trial.due("in hand", g.thing(SHOE, 3), 64);
        }
        GutterNine narrow = of("ff ff ff ff ff ff ff fp");
        Trial.due("the last row's left end", put(narrow, SHOE, 0, 7), 56);
        Trial.due("in a pipe", put(narrow, STICK, 1, 7), 66);
        Trial.due("over", narrow.toss(0, BALL, 0, 0, 2), 65);
    }

    private static void oneAtMostOnEach() {
        Trial.says("one at most on each CELL");
        GutterNine g = of("cc ff cc");
        put(g, SHOE, 0, 1);
        Trial.due("a second one", put(g, SHOE2, 0, 1), 64);
        Trial.due("the first stays", g.tile(0, 1, 1), SHOE);
        GutterNine all = of("ffff ffff");
        for (int thing = 0; thing < 8; thing++) {
            Trial.due("a full roof", put(all, thing, thing % 4, 1 - thing / 4), (1 - thing / 4) * 8 + thing % 4);
        }
        Trial.due("count(5)", all.count(5), 8);
        Trial.due("count(4)", all.count(4), 0);
        all.gale(3);
        Trial.due("nothing goes where something lies", all.count(5), 8);
    }

    private static void oneAtMostInEachPipe() {
        Trial.says("in a pipe (66; one at most in each)");
        GutterNine g = of("pf fp");
        Trial.due("into the first", put(g, SHOE, 0, 0), 66);
        Trial.due("a second one falls", put(g, STICK, 0, 0), 64);
        Trial.due("the other pipe is free", put(g, STICK, 1, 1), 66);
        Trial.due("and full then", put(g, BALL, 1, 1), 64);
        Trial.due("in the first", g.tile(0, 0, 1), SHOE);
        Trial.due("in the other", g.tile(1, 1, 1), STICK);
        Trial.due("count(7)", g.count(7), 2);
        g.undo();
        g.undo();
        Trial.due("free again", put(g, BALL, 1, 1), 66);
    }

    private static void beyondTheLastRowAndToASide() {
        Trial.says("beyond the last row, to a side: it falls (it is in hand)");
        GutterNine g = of("lffr lffr dddd");
        for (int y = 0; y < 2; y++) {
            Trial.due("to the left", g.rolls(0, y), 64);
            Trial.due("to the right", g.rolls(3, y), 64);
        }
        for (int x = 0; x < 4; x++) {
            Trial.due("beyond the last row", g.rolls(x, 2), 64);
        }
        GutterNine big = of("ffffffff ffffffff ffffffff ffffffff ffffffff ffffffff ffffffff lddddddd");
        Trial.due("the left end of eight rows", big.rolls(0, 7), 64);
        Trial.due("beyond the eighth row", big.rolls(3, 7), 64);
        GutterNine wide = of("fffffffr fffffffl");
        Trial.due("to the right of eight", wide.rolls(7, 0), 64);
        Trial.due("to the left within", wide.rolls(7, 1), 14);
        Trial.due("it falls", put(wide, BALL, 7, 0), 64);
        Trial.due("it is in hand", wide.count(4), 8);
    }

    private static void beyondTheRidge() {
        Trial.says("beyond the ridge: over");
        GutterNine g = of("uuu fuf");
        for (int x = 0; x < 3; x++) {
            Trial.due("over", g.rolls(x, 0), 65);
        }
        Trial.due("by two steps", g.rolls(1, 1), 65);
        Trial.due("it is over", put(g, BALL, 0, 0), 65);
        Trial.due("count(6)", g.count(6), 1);
        GutterNine flat = of("ff ff");
        put(flat, BALL, 0, 0);
        Trial.due("by a gale", flat.gale(1), 1);
        Trial.due("it is over, too", flat.thing(BALL, 3), 65);
    }

    private static void chimneysAndThingsStop() {
        Trial.says("a chimney, a CELL with a THING: it stays where it was");
        GutterNine g = of("rcd fuf lfd fcd ffc");
        Trial.due("a chimney to the right", g.rolls(0, 0), 0);
        Trial.due("a chimney to the back", g.rolls(1, 1), 9);
        Trial.due("a chimney to the street", g.rolls(2, 3), 26);
        Trial.due("down to the chimney", g.rolls(2, 2), 26);
        put(g, SHOE, 2, 3);
        Trial.due("a THING to the street", g.rolls(2, 2), 18);
        put(g, SHOE2, 2, 1);
        Trial.due("a THING right below", g.rolls(2, 0), 2);
        GutterNine four = of("fff fff fff");
        put(four, BALL, 1, 1);
        put(four, SHOE, 1, 2);
        put(four, SHOE2, 1, 0);
        put(four, STICK, 0, 1);
        put(four, STICK2, 2, 1);
        for (int way = 0; way < 4; way++) {
            Trial.due("THINGS all around, way " + way, four.gale(way), 0);
            Trial.due("it stays", four.thing(BALL, 3), 9);
        }
        GutterNine chimneys = of("fcf cfc fcf");
        put(chimneys, BALL, 1, 1);
        for (int way = 0; way < 4; way++) {
            Trial.due("chimneys all around, way " + way, chimneys.gale(way), 0);
        }
    }

    private static void pipesTakeOne() {
        Trial.says("a pipe: into it if it is free, else it falls");
        String[] rows = {"fff fdf fpf", "fpf fuf fff", "fff plf fff", "fff frp fff"};
        int[] pipes = {17, 1, 8, 10};
        for (int way = 0; way < 4; way++) {
            GutterNine g = of(rows[way]);
            Trial.due("rolls: free, way " + way, g.rolls(1, 1), 66);
            Trial.due("a ball", put(g, BALL, 1, 1), 66);
            Trial.due("in it", g.tile(pipes[way] % 8, pipes[way] / 8, 1), BALL);
            Trial.due("rolls: full, way " + way, g.rolls(1, 1), 64);
            Trial.due("a frisbee falls", put(g, FRISBEE, 1, 1), 64);
            Trial.due("the ball stays", g.tile(pipes[way] % 8, pipes[way] / 8, 1), BALL);
        }
    }

    private static void shoesAndSticksDoNotRoll() {
        Trial.says("ROLL of a THING on a CELL: a shoe, a stick none");
        for (String slope : new String[] {"d", "u", "l", "r"}) {
            GutterNine g = of("fff f" + slope + "f fff");
            for (int thing : new int[] {SHOE, STICK}) {
                Trial.due("on " + slope, put(g, thing, 1, 1), 9);
                g.undo();
            }
        }
    }

    private static void frisbeesRollOneStep() {
        Trial.says("a frisbee one step at most");
        GutterNine g = of("fdf fdf fdf");
        Trial.due("one of three", put(g, FRISBEE, 1, 0), 9);
        Trial.due("beyond the last row by one", put(g, FRISBEE2, 1, 2), 64);
        GutterNine other = of("ldu lfr ppd ccd");
        Trial.due("to the left: off", put(other, FRISBEE, 0, 0), 64);
        Trial.due("to the back: over", put(other, FRISBEE, 2, 0), 65);
        Trial.due("to the street", put(other, FRISBEE2, 1, 0), 9);
        GutterNine still = of("ff mg");
        for (int x = 0; x < 2; x++) {
            for (int y = 0; y < 2; y++) {
                Trial.due("none on flat, moss, gutter", put(still, FRISBEE, x, y), y * 8 + x);
                still.undo();
            }
        }
    }

    private static final String SNAKE =
        "rrrrrrrd dlllllll rrrrrrrd dlllllll rrrrrrrd dlllllll rrrrrrrd flllllll";

    private static void ballsRollOnAndOn() {
        Trial.says("a ball on and on");
        GutterNine g = of(SNAKE);
        Trial.due("through all 64 CELLS", g.rolls(0, 0), 56);
        Trial.due("a ball does", put(g, BALL, 0, 0), 56);
        Trial.due("the next stops by it", put(g, BALL2, 0, 0), 57);
        Trial.due("a frisbee goes one step", put(g, FRISBEE, 0, 0), 1);
        Trial.due("off at the end", of(SNAKE.replace("flll", "llll")).rolls(0, 0), 64);
        Trial.due("beyond the last row at the end", of(SNAKE.replace("flll", "dlll")).rolls(0, 0), 64);
    }

    private static void bySlopes() {
        Trial.says("by the slope of the CELL it COMES TO the next one");
        int[] next = {17, 1, 8, 10};
        for (int i = 0; i < 4; i++) {
            char slope = "dulr".charAt(i);
            GutterNine g = of("fff f" + slope + "f fff");
            Trial.due("a ball on " + slope, put(g, BALL, 1, 1), next[i]);
            g.undo();
            Trial.due("a frisbee on " + slope, put(g, FRISBEE, 1, 1), next[i]);
        }
    }

    private static void flatMossGutterStop() {
        Trial.says("on flat, moss, gutter it stops");
        for (String stop : new String[] {"f", "m", "g"}) {
            GutterNine g = of("ddd " + stop.repeat(3) + " ddd");
            Trial.due("on " + stop, put(g, BALL, 1, 0), 9);
            Trial.due("put on " + stop, put(g, BALL2, 0, 1), 8);
            Trial.due("rolls on " + stop, g.rolls(2, 0), 10);
        }
    }

    private static void notWhereItWasInThisRoll() {
        Trial.says("to a CELL on which it was in this ROLL it does not come (it stops)");
        GutterNine two = of("rl ff");
        Trial.due("two, from the left", two.rolls(0, 0), 1);
        Trial.due("two, from the right", two.rolls(1, 0), 0);
        GutterNine down = of("df uf");
        Trial.due("two, from above", down.rolls(0, 0), 8);
        Trial.due("two, from below", down.rolls(0, 1), 0);
        GutterNine four = of("rd ul");
        int[] stops = {8, 0, 9, 1};
        for (int i = 0; i < 4; i++) {
            Trial.due("four, from " + i, four.rolls(i % 2, i / 2), stops[i]);
        }
        GutterNine tail = of("rrd ful ddd");
        Trial.due("a tail, then a ring", tail.rolls(0, 0), 9);
        Trial.due("from within that ring", tail.rolls(2, 0), 1);
        Trial.due("from its other end", tail.rolls(1, 1), 10);
        GutterNine longer = of("rrrd fful");
        for (int x = 0; x < 2; x++) {
            Trial.due("a tail of " + (2 - x), longer.rolls(x, 0), 10);
        }
        GutterNine longest = of("rrrrrd fffful");
        for (int x = 0; x < 4; x++) {
            Trial.due("a tail of " + (4 - x), longest.rolls(x, 0), 12);
        }
        ringOfAll();
    }

    private static void ringOfAll() {
        String[] rows = ("rrrrrrrd udllllll urrrrrrd udllllll urrrrrrd udllllll urrrrrrd ulllllll").split(" ");
        GutterNine g = of(String.join(" ", rows));
        for (int cell = 0; cell < 64; cell++) {
            int way = "dulr".indexOf(rows[cell / 8].charAt(cell % 8));
            int next = cell + new int[] {8, -8, -1, 1}[way];
            Trial.due("all 64: from the next one round to " + cell, g.rolls(next % 8, next / 8), cell);
        }
    }

    private static void aRollBeginsAnew() {
        Trial.says("in this ROLL: the next one begins anew");
        GutterNine g = of("rl ff");
        Trial.due("it was on both", put(g, BALL, 0, 0), 1);
        g.gale(2);
        Trial.due("moved to the left, it rolls back", g.thing(BALL, 3), 1);
        GutterNine knocked = of("ff dl uf ff");
        Trial.due("down and stopped", put(knocked, BALL, 1, 1), 16);
        put(knocked, SHOE, 0, 0);
        Trial.due("up to where it was", knocked.gale(1), 0);
        Trial.due("and back again", knocked.thing(BALL, 3), 16);
    }

    private static void throwsOfThingsInHand() {
        Trial.says("THROW of a THING in hand");
        GutterNine g = of("fpf fff");
        put(g, SHOE, 0, 0);
        put(g, STICK, 1, 0);
        g.toss(0, BALL, 0, 0, 2);
        String ahead = Trial.all(g);
        for (int thing : new int[] {SHOE, STICK, BALL}) {
            Trial.due("not in hand: " + thing, put(g, thing, 2, 1), NONE);
        }
        Trial.due("nothing came of it", Trial.all(g), ahead);
        g.fetch(1);
        Trial.due("in hand again", put(g, BALL, 2, 1), 10);
    }

    private static void slips() {
        Trial.says("with a SLIP (0 none, 1 to 8 the CELLS around, row by row)");
        GutterNine g = of("ffff ffff fffm");
        int[][] steps = {{0, 0}, {-1, -1}, {0, -1}, {1, -1}, {-1, 0}, {1, 0}, {-1, 1}, {0, 1}, {1, 1}};
        for (int cell = 0; cell < 12; cell++) {
            for (int slip = 0; slip <= 8; slip++) {
                int x = cell % 4 + steps[slip][0];
                int y = cell / 4 + steps[slip][1];
                boolean beside = x < 0 || x > 3 || y > 2;
                Trial.due("at " + cell + ", slip " + slip, g.toss(0, SHOE, cell % 4, cell / 4, slip),
                    beside ? 64 : y < 0 ? 65 : y * 8 + x);
                g.undo();
            }
        }
        String ahead = Trial.all(g);
        for (int slip : new int[] {-1, 9, 10, 80, Integer.MIN_VALUE, Integer.MAX_VALUE}) {
            Trial.due("slip " + slip, g.toss(0, SHOE, 1, 1, slip), NONE);
        }
        Trial.due("nothing came of it", Trial.all(g), ahead);
    }

    private static void landingBesideTheRoof() {
        Trial.says("it lands there: beyond the last row, to a side .. it falls; beyond the ridge (and to no side) it is over");
        String[] roofs = {"ff ff", FLAT};
        for (String rows : roofs) {
            GutterNine g = of(rows);
            int last = g.count(0) - 1;
            int low = g.count(1) - 1;
            int[][] throwsAt = {{0, 0, 1, 64}, {0, 0, 2, 65}, {0, 0, 4, 64}, {0, 0, 6, 64}, {last, 0, 3, 64},
                {last, 0, 2, 65}, {last, 0, 5, 64}, {last, 0, 8, 64}, {0, low, 6, 64}, {0, low, 7, 64},
                {0, low, 1, 64}, {last, low, 8, 64}, {last, low, 7, 64}, {last, low, 5, 64}};
            for (int[] at : throwsAt) {
                Trial.due("at " + at[0] + ", " + at[1] + ", slip " + at[2], g.toss(0, BALL, at[0], at[1], at[2]), at[3]);
                Trial.due("who threw it", g.thing(BALL, 4), 0);
                g.undo();
            }
        }
    }

    private static void landingOnChimneysAndPipes() {
        Trial.says("on a chimney it falls; .. on a pipe: into it, else it falls");
        GutterNine g = of("cp ff");
        for (int thing = 0; thing < 8; thing++) {
            Trial.due("on a chimney", put(g, thing, 0, 0), 64);
            Trial.due("into a pipe", put(g, thing, 1, 0), 66);
            Trial.due("a full pipe", put(g, (thing + 1) % 8, 1, 0), 64);
            Trial.due("the first one stays in it", g.tile(1, 0, 1), thing);
            g.undo();
            g.undo();
        }
        Trial.due("slipped to a chimney", g.toss(0, SHOE, 1, 0, 4), 64);
        Trial.due("slipped into a pipe", g.toss(0, SHOE, 0, 1, 3), 66);
        Trial.due("slipped to a full one", g.toss(0, STICK, 1, 1, 2), 64);
    }

    private static void landingOnAFreeCell() {
        Trial.says("on a free CELL it lies there and ROLLS");
        GutterNine g = of("rrf fff mgf");
        Trial.due("a ball rolls", put(g, BALL, 0, 0), 2);
        Trial.due("a frisbee rolls", put(g, FRISBEE, 0, 0), 1);
        Trial.due("a shoe lies", put(g, SHOE, 0, 0), 0);
        Trial.due("a stick lies", put(g, STICK, 1, 1), 9);
        Trial.due("on moss", put(g, BALL2, 0, 2), 16);
        Trial.due("in a gutter", put(g, SHOE2, 1, 2), 17);
        Trial.due("by a slip, too", of("rrf fff").toss(1, BALL, 0, 1, 2), 2);
    }

    private static void knockedAStep() {
        Trial.says("On one with a THING: that one is KNOCKED: it COMES TO the CELL a step to the street");
        GutterNine g = of("ff ff ff ff");
        for (int thrown : new int[] {BALL, SHOE, FRISBEE}) {
            for (int hit : new int[] {BALL2, SHOE2, FRISBEE2, STICK2}) {
                put(g, hit, 0, 0);
                Trial.due(thrown + " at " + hit, put(g, thrown, 0, 0), 0);
                Trial.due(hit + " by " + thrown, g.thing(hit, 3), 8);
                Trial.due("tile(0, 1, 1)", g.tile(0, 1, 1), hit);
                Trial.due("tile(0, 0, 1)", g.tile(0, 0, 1), thrown);
                g.undo();
                Trial.due("undone", g.thing(hit, 3), 0);
                g.undo();
            }
        }
        put(g, SHOE, 1, 3);
        Trial.due("at the last row", put(g, BALL, 1, 3), 25);
        Trial.due("it fell", g.thing(SHOE, 3), 64);
        Trial.due("who threw it stays so", g.toss(1, SHOE, 1, 3, 0), 25);
        Trial.due("the ball's", g.thing(BALL, 4), 0);
        Trial.due("the shoe's", g.thing(SHOE, 4), 1);
        GutterNine stops = of("fff cpf fff");
        put(stops, SHOE, 0, 0);
        Trial.due("a chimney there", put(stops, BALL, 0, 0), 64);
        put(stops, STICK, 2, 1);
        put(stops, BALL2, 2, 0);
        Trial.due("a THING there", put(stops, BALL, 2, 0), 64);
        put(stops, FRISBEE, 1, 0);
        Trial.due("a free pipe there", put(stops, FRISBEE2, 1, 0), 1);
        Trial.due("it is in it", stops.tile(1, 1, 1), FRISBEE);
        Trial.due("a full pipe there", put(stops, BALL, 1, 0), 1);
        Trial.due("it fell, too", stops.thing(FRISBEE2, 3), 64);
    }

    private static void knockedByAStick() {
        Trial.says("(thrown a stick: and from there, if it came and is still on the roof, one more)");
        GutterNine g = of("ffffff ffffpf fcfpff ffffff");
        put(g, BALL, 2, 2);
        put(g, STICK2, 4, 1);
        int[] wants = {16, 9, 10, 66, 64, 21};
        for (int x = 0; x < wants.length; x++) {
            put(g, SHOE, x, 0);
            Trial.due("the stick at column " + x, put(g, STICK, x, 0), x);
            Trial.due("the shoe of column " + x, g.thing(SHOE, 3), wants[x]);
            g.undo();
            g.undo();
        }
        GutterNine pipe = of("ff pf ff");
        put(pipe, SHOE, 0, 0);
        put(pipe, STICK, 0, 0);
        Trial.due("in the pipe it is no more on the roof", pipe.thing(SHOE, 3), 66);
        GutterNine low = of("ff ff ff");
        put(low, SHOE, 0, 1);
        put(low, STICK, 0, 1);
        Trial.due("one step, then beyond the last row", low.thing(SHOE, 3), 64);
        put(low, SHOE, 1, 2);
        put(low, STICK2, 1, 2);
        Trial.due("beyond the last row at once", low.thing(SHOE, 3), 64);
        GutterNine chimney = of("ff cf ff");
        put(chimney, SHOE, 0, 0);
        Trial.due("a chimney at once", put(chimney, STICK, 0, 0), 64);
        Trial.due("it did not come", chimney.thing(SHOE, 3), 0);
        GutterNine hit = of("ff ff ff");
        put(hit, STICK, 0, 0);
        put(hit, SHOE, 0, 0);
        Trial.due("a stick that is hit goes one step", hit.thing(STICK, 3), 8);
    }

    private static void knockedAndRolls() {
        Trial.says("then it ROLLS if it came to another CELL");
        GutterNine g = of("fff rrf fff");
        int[] hit = {BALL, FRISBEE, SHOE, STICK};
        int[] wants = {10, 9, 8, 8};
        for (int i = 0; i < 4; i++) {
            put(g, hit[i], 0, 0);
            put(g, SHOE2, 0, 0);
            Trial.due("a step, then a ROLL of " + hit[i], g.thing(hit[i], 3), wants[i]);
            g.undo();
            g.undo();
        }
        GutterNine two = of("fff rrf rrf fff");
        put(two, BALL, 0, 0);
        put(two, STICK, 0, 0);
        Trial.due("two steps, a ROLL behind the second alone", two.thing(BALL, 3), 18);
        GutterNine stopped = of("fff rrf cff");
        put(stopped, BALL, 0, 0);
        put(stopped, STICK, 0, 0);
        Trial.due("one step, stopped, then a ROLL", stopped.thing(BALL, 3), 10);
        GutterNine off = of("fff rrr fff");
        put(off, BALL, 0, 0);
        put(off, SHOE, 0, 0);
        Trial.due("it rolls off", off.thing(BALL, 3), 64);
        GutterNine over = of("ffu rru fff");
        put(over, BALL, 0, 0);
        put(over, SHOE, 0, 0);
        Trial.due("it rolls over the ridge", over.thing(BALL, 3), 65);
        GutterNine piped = of("fff rrp fff");
        put(piped, BALL, 0, 0);
        put(piped, SHOE, 0, 0);
        Trial.due("it rolls into a pipe", piped.thing(BALL, 3), 66);
    }

    private static void knockedAndDoesNotRoll() {
        Trial.says("if it came to another CELL: else it does not ROLL");
        GutterNine g = Trial.of("rf cf", EIGHT + "window 1 0 reach 0;");
        put(g, SHOE, 1, 0);
        Trial.due("stopped by the shoe", put(g, BALL, 0, 0), 0);
        Trial.due("the shoe is gone", g.broom(), 1 << SHOE);
        Trial.due("it can't come: the thrown one falls", put(g, SHOE2, 0, 0), 64);
        Trial.due("it does not roll", g.thing(BALL, 3), 0);
        Trial.due("by a stick neither", put(g, STICK, 0, 0), 64);
        Trial.due("it does not roll", g.thing(BALL, 3), 0);
    }

    private static void stillThere() {
        Trial.says("if it is still there the thrown one falls");
        GutterNine g = of("uf cf");
        put(g, SHOE, 0, 0);
        for (int thrown : new int[] {BALL, FRISBEE, STICK, SHOE2}) {
            Trial.due("it falls: " + thrown, g.toss(1, thrown, 0, 0, 0), 64);
            Trial.due("who threw it", g.thing(thrown, 4), 1);
            Trial.due("the shoe is there", g.tile(0, 0, 1), SHOE);
        }
        GutterNine back = of("ff uf ff");
        put(back, BALL, 0, 0);
        Trial.due("rolled back: still there", put(back, SHOE, 0, 0), 64);
        Trial.due("the ball", back.thing(BALL, 3), 0);
        put(back, FRISBEE, 1, 0);
        Trial.due("not rolled back", put(back, SHOE, 1, 0), 1);
        put(back, BALL2, 0, 2);
        Trial.due("one step of two, and rolled back", put(back, STICK, 0, 0), 64);
        Trial.due("the ball is there", back.thing(BALL, 3), 0);
    }

    private static void elseItLiesThere() {
        Trial.says("else that one lies there now and ROLLS");
        GutterNine g = of("rf ff");
        put(g, SHOE, 0, 0);
        Trial.due("a ball rolls on", put(g, BALL, 0, 0), 1);
        Trial.due("the shoe", g.thing(SHOE, 3), 8);
        GutterNine down = of("df df df");
        put(down, SHOE, 0, 0);
        Trial.due("a ball rolls till the one that it hit", put(down, BALL, 0, 0), 0);
        put(down, SHOE2, 0, 2);
        Trial.due("a ball rolls off behind the one that it hit", put(down, BALL2, 0, 2), 64);
        Trial.due("that is in hand", down.thing(SHOE2, 3), 64);
        GutterNine frisbee = of("rrf fff");
        put(frisbee, SHOE, 0, 0);
        Trial.due("a frisbee one step", put(frisbee, FRISBEE, 0, 0), 1);
        GutterNine pipe = of("df pf");
        put(pipe, SHOE, 0, 0);
        Trial.due("the hit one is in the pipe: the thrown one falls there", put(pipe, BALL, 0, 0), 64);
        Trial.due("the shoe", pipe.tile(0, 1, 1), SHOE);
    }
}
