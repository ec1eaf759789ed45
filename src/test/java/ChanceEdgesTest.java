/** Section 3 of the document, ODDS to LIES: each sentence that names an edge has its own test. */
public final class ChanceEdgesTest {
    private static final int NONE = GutterNine.NONE;
    private static final int[] FAR = {-1, Integer.MIN_VALUE, Integer.MAX_VALUE};

    public static void main(String[] args) {
        slipsOfAnArm();
        someOtherInHand();
        whereTheThrownOneIs();
        oddsRefused();
        gainOnTheMean();
        gainRefused();
        nextOfAll();
        nextTheFirst();
        nextOfAllGains();
        nextRefused();
        planOfOne();
        planAtThingsAlone();
        planOfTwo();
        planRefused();
        aloneTheGreatest();
        aloneTheFirst();
        aloneRefused();
        seenKinds();
        seenRefused();
        liesOfSlipsThatCanBe();
        liesNearestTheStreet();
        liesUnlikePlaces();
        liesTheLeast();
        liesNone();
        Trial.end();
    }

    private static int put(GutterNine g, int thing, int x, int y) {
        int at = g.toss(0, thing, x, y, 0);
        Trial.due("put " + thing + " at " + x + ", " + y, at >= 0, true);
        return at;
    }

    private static String withPipeAt(int cell) {
        char[] rows = "fff fff fff".toCharArray();
        rows[cell / 3 * 4 + cell % 3] = 'p';
        return new String(rows);
    }

    private static void slipsOfAnArm() {
        Trial.says("SLIPS of a PERSON of an arm: none in arm of ten; else each of the 8 alike: in eightieths 8 * arm, and 10 - arm each");
        for (int arm = 0; arm <= 10; arm++) {
            for (int cell = 0; cell < 9; cell++) {
                GutterNine g = Trial.of(withPipeAt(cell), "person a arm " + arm + ";thing t shoe of a worth 1;");
                Trial.due("arm " + arm + ", cell " + cell, g.odds(0, 0, 1, 1, 4), cell == 4 ? 8 * arm : 10 - arm);
                Trial.due("else on the roof", g.odds(0, 0, 1, 1, 2), 80 - (cell == 4 ? 8 * arm : 10 - arm));
            }
        }
    }

    /** Arms of 10, 0 and 5; shoes x and z, a stick y, a ball w. */
    private static final String FOUR = "person a arm 10;person b arm 0;person c arm 5;thing x shoe of a worth 10;"
        + "thing y stick of b worth 20;thing z shoe of c worth 40;thing w ball of a worth 3;";

    private static void someOtherInHand() {
        Trial.says("ODDS: that by it some other THING is in hand that was not");
        GutterNine g = Trial.of("uff ffp fff", FOUR);
        Trial.due("none is on the roof", g.odds(0, 0, 1, 1, 0), 0);
        put(g, 0, 1, 1);
        Trial.due("knocked on the roof", g.odds(0, 2, 1, 1, 0), 0);
        Trial.due("knocked off by two steps", g.odds(0, 1, 1, 1, 0), 80);
        Trial.due("by arm 5", g.odds(2, 1, 1, 1, 0), 40);
        Trial.due("by arm 0 at it", g.odds(1, 1, 1, 1, 0), 0);
        Trial.due("by arm 0 beside it", g.odds(1, 1, 1, 0, 0), 10);
        GutterNine pipe = Trial.of("ff pf", FOUR);
        put(pipe, 0, 0, 0);
        Trial.due("knocked into a pipe", pipe.odds(0, 1, 0, 0, 0), 0);
        GutterNine over = Trial.of("ff uf", FOUR);
        put(over, 3, 0, 0);
        Trial.due("knocked, and rolled back", over.odds(0, 0, 0, 0, 0), 0);
        GutterNine ridge = Trial.of("fu ru", FOUR);
        put(ridge, 3, 0, 0);
        Trial.due("knocked, and over the ridge", ridge.odds(0, 0, 0, 0, 0), 0);
        GutterNine full = Trial.of("ff pf", FOUR);
        put(full, 2, 0, 1);
        put(full, 0, 0, 0);
        Trial.due("knocked to a full pipe", full.odds(0, 1, 0, 0, 0), 80);
    }

    private static void whereTheThrownOneIs() {
        Trial.says("ODDS: that the thrown one is in hand; on the roof; over; in a pipe");
        GutterNine g = Trial.of("cp ff", FOUR);
        int[][] wants = {{80, 0, 0, 0}, {0, 0, 0, 80}, {0, 80, 0, 0}, {0, 80, 0, 0}};
        for (int cell = 0; cell < 4; cell++) {
            for (int what = 1; what <= 4; what++) {
                Trial.due("cell " + cell + ", what " + what, g.odds(0, 0, cell % 2, cell / 2, what), wants[cell][what - 1]);
            }
        }
        int[] chimney = {30, 20, 20, 10};
        for (int what = 1; what <= 4; what++) {
            Trial.due("arm 0 at the chimney, what " + what, g.odds(1, 0, 0, 0, what), chimney[what - 1]);
        }
        int[] corner = {60, 10, 0, 10};
        for (int what = 1; what <= 4; what++) {
            Trial.due("arm 0 at the corner, what " + what, g.odds(1, 0, 0, 1, what), corner[what - 1]);
        }
        put(g, 0, 1, 0);
        Trial.due("a full pipe", g.odds(0, 1, 1, 0, 1), 80);
        put(g, 1, 0, 1);
        Trial.due("one lies there, and falls", g.odds(0, 2, 0, 1, 2), 80);
        for (int person = 0; person < 3; person++) {
            for (int cell = 0; cell < 4; cell++) {
                int sum = 0;
                for (int what = 1; what <= 4; what++) {
                    sum += g.odds(person, 2, cell % 2, cell / 2, what);
                }
                Trial.due("all together", sum, 80);
            }
        }
        GutterNine still = Trial.of("ff cf", FOUR);
        put(still, 0, 0, 0);
        Trial.due("the hit one can't go: it falls", still.odds(0, 2, 0, 0, 1), 80);
        Trial.due("and no other one is in hand", still.odds(0, 2, 0, 0, 0), 0);
    }

    private static GutterNine someGone() {
        GutterNine g = Trial.of("fpf fff", FOUR);
        put(g, 0, 0, 0);
        put(g, 1, 1, 0);
        g.toss(0, 2, 2, 0, 2);
        return g;
    }

    private static void oddsRefused() {
        Trial.says("odds: NONE: others, it is not in hand");
        GutterNine g = someGone();
        String ahead = Trial.all(g);
        for (int what = 0; what <= 4; what++) {
            Trial.due("on the roof", g.odds(0, 0, 0, 0, what), NONE);
            Trial.due("in a pipe", g.odds(0, 1, 0, 0, what), NONE);
            Trial.due("over", g.odds(0, 2, 0, 0, what), NONE);
            Trial.due("the fourth is in hand", g.odds(2, 3, 2, 1, what) >= 0, true);
            for (int i = 0; i < 3; i++) {
                Trial.due("person", g.odds(i == 0 ? 3 : FAR[i], 3, 0, 0, what), NONE);
                Trial.due("person -1", g.odds(-1, 3, 0, 0, what), NONE);
                Trial.due("thing", g.odds(0, i == 0 ? 4 : FAR[i], 0, 0, what), NONE);
                Trial.due("thing -1", g.odds(0, -1, 0, 0, what), NONE);
                Trial.due("x", g.odds(0, 3, i == 0 ? 3 : FAR[i], 0, what), NONE);
                Trial.due("x -1", g.odds(0, 3, -1, 0, what), NONE);
                Trial.due("y", g.odds(0, 3, 0, i == 0 ? 2 : FAR[i], what), NONE);
                Trial.due("y -1", g.odds(0, 3, 0, -1, what), NONE);
            }
        }
        Trial.due("what 5", g.odds(0, 3, 0, 0, 5), NONE);
        for (int far : FAR) {
            Trial.due("what " + far, g.odds(0, 3, 0, 0, far), NONE);
        }
        Trial.due("nothing came of it", Trial.all(g), ahead);
    }

    private static void gainOnTheMean() {
        Trial.says("GAIN: by how much more all in hand is worth on the mean, in eightieths");
        GutterNine g = Trial.of("cff fff", "person a arm 10;person b arm 0;person c arm 5;thing x shoe of a worth 99;"
            + "thing y shoe of b worth 0;thing z shoe of c worth 1;");
        Trial.due("lost for certain", g.gain(0, 0, 1, 1), -99 * 80);
        Trial.due("worth nothing", g.gain(0, 1, 1, 1), 0);
        Trial.due("it falls for certain", g.gain(0, 0, 0, 0), 0);
        Trial.due("arm 0: five stay or are gone, three fall, one at the chimney", g.gain(1, 0, 1, 1), -99 * 40);
        Trial.due("arm 5 at the chimney: three stay, two are over", g.gain(2, 2, 0, 0), -5 * 5);
        put(g, 0, 1, 1);
        Trial.due("the dear one comes", g.gain(0, 1, 1, 1), 99 * 80);
        Trial.due("less the thrown one", g.gain(0, 2, 1, 1), 98 * 80);
        Trial.due("by arm 5, none for five, five", g.gain(2, 1, 1, 1), 99 * 40);
    }

    private static void gainRefused() {
        Trial.says("gain: NoSuchElementException: others, it is not in hand");
        GutterNine g = someGone();
        String ahead = Trial.all(g);
        Trial.dueToThrow("on the roof", () -> g.gain(0, 0, 0, 0));
        Trial.dueToThrow("in a pipe", () -> g.gain(0, 1, 0, 0));
        Trial.dueToThrow("over", () -> g.gain(0, 2, 0, 0));
        Trial.due("the fourth is in hand", g.gain(2, 3, 2, 1) <= 0, true);
        Trial.dueToThrow("person 3", () -> g.gain(3, 3, 0, 0));
        Trial.dueToThrow("thing 4", () -> g.gain(0, 4, 0, 0));
        Trial.dueToThrow("x 3", () -> g.gain(0, 3, 3, 0));
        Trial.dueToThrow("y 2", () -> g.gain(0, 3, 0, 2));
        for (int far : FAR) {
            Trial.dueToThrow("person " + far, () -> g.gain(far, 3, 0, 0));
            Trial.dueToThrow("thing " + far, () -> g.gain(0, far, 0, 0));
            Trial.dueToThrow("x " + far, () -> g.gain(0, 3, far, 0));
            Trial.dueToThrow("y " + far, () -> g.gain(0, 3, 0, far));
        }
        Trial.due("nothing came of it", Trial.all(g), ahead);
        Trial.dueToThrow("nobody", () -> new GutterNine().gain(0, 0, 0, 0));
    }

    private static void dueNext(String when, GutterNine g, int gain, int person, int thing, int cell) {
        int[] wants = {gain, person, thing, cell};
        for (int what = 0; what < 4; what++) {
            Trial.due(when + ": next(" + what + ")", g.next(what), wants[what]);
        }
    }

    private static void nextOfAll() {
        Trial.says("NEXT: of all throws (PEOPLE, THINGS in hand, all CELLS) the one with the greatest GAIN");
        GutterNine g = Trial.of("fff fff fff", "person a arm 0;person b arm 10;thing x shoe of a worth 50;"
            + "thing y shoe of b worth 9;thing z stick of a worth 4;");
        put(g, 0, 2, 2);
        dueNext("the last person, thing, cell", g, (50 - 4) * 80, 1, 2, 18);
        GutterNine loss = Trial.of("ff ff", "person a arm 10;thing x shoe of a worth 50;thing y shoe of a worth 9;");
        dueNext("all lose: the least", loss, -9 * 80, 0, 1, 0);
        GutterNine worst = Trial.of("ff ff", "person a arm 10;thing x shoe of a worth 99;");
        dueNext("there is none but the worst", worst, -99 * 80, 0, 0, 0);
        GutterNine slip = Trial.of("ff ff", "person a arm 0;thing x shoe of a worth 99;thing y shoe of a worth 0;");
        put(slip, 0, 0, 1);
        dueNext("at a CELL without a THING", slip, 99 * 10, 0, 1, 0);
        GutterNine pipe = Trial.of("fp ff", "person a arm 10;thing x shoe of a worth 7;thing y shoe of a worth 3;");
        put(pipe, 0, 1, 0);
        dueNext("at the full pipe it falls", pipe, 0, 0, 1, 1);
        GutterNine big = Trial.of("ffffffff ffffffff ffffffff ffffffff ffffffff ffffffff ffffffff fffffffc",
            "person a arm 10;thing x shoe of a worth 1;");
        dueNext("the last of 64 CELLS", big, 0, 0, 0, 63);
        GutterNine one = Trial.of("ff ff", "person a arm 10;person b arm 10;thing x shoe of a worth 1;"
            + "thing y shoe of a worth 90;thing z shoe of a worth 80;");
        put(one, 1, 0, 1);
        put(one, 0, 1, 1);
        dueNext("only what is in hand is thrown", one, (90 - 80) * 80, 0, 2, 8);
    }

    private static void nextTheFirst() {
        Trial.says("of equal ones the first PERSON, THING, CELL (by rows)");
        GutterNine g = Trial.of("fff ffc fcf", "person a arm 10;person b arm 10;thing x shoe of a worth 5;"
            + "thing y shoe of b worth 5;");
        dueNext("the first CELL by rows", g, 0, 0, 0, 10);
        put(g, 0, 0, 2);
        put(g, 1, 2, 2);
        g.days(6);
        dueNext("all in hand again", g, 0, 0, 0, 10);
        GutterNine persons = Trial.of("ff ff", "person a arm 3;person b arm 10;person c arm 10;thing x shoe of a worth 0;"
            + "thing y shoe of b worth 0;thing z shoe of c worth 8;");
        put(persons, 2, 1, 1);
        dueNext("the first of two equal PEOPLE, and of two equal THINGS", persons, 8 * 80, 1, 0, 9);
        GutterNine zero = Trial.of("ff ff", "person a arm 10;person b arm 0;thing x shoe of a worth 1;thing y shoe of b worth 0;");
        dueNext("PERSON ahead of THING ahead of CELL", zero, 0, 0, 1, 0);
    }

    private static void nextOfAllGains() {
        Trial.says("NEXT: of all throws, each with its GAIN, whatever was asked ahead");
        String yard = "person a arm 3;person b arm 0;person c arm 9;person d arm 3;thing x ball of a worth 5;"
            + "thing y shoe of b worth 3;thing z stick of c worth 4;thing w frisbee of d worth 6;";
        GutterNine g = Trial.of("ff ff", yard);
        String[] roofs = {"ffffffff ffffffff ffffffff ffffffff ffffffff ffffffff ffffffff ffffffff", "ff ff", "fff fcf fff",
            "rdl ucp gmf fff", "ff ff ff ff ff ff ff ff", "ffffffff ffffffff", "uu dd"};
        for (String rows : roofs) {
            Trial.due("roof", Trial.roof(g, Trial.roofText(rows)), 0);
            dueNextOfAllGains(g);
            g.toss(0, 1, g.count(0) - 1, g.count(1) - 1, 0);
            dueNextOfAllGains(g);
            g.toss(1, 3, 0, 0, 0);
            dueNextOfAllGains(g);
        }
        GutterNine first = Trial.of("ff ff", "person a arm 0;person b arm 10;thing x shoe of a worth 9;thing y shoe of a worth 1;");
        dueNext("at the corner below three SLIPS stay", first, -30, 0, 1, 8);
        put(first, 0, 0, 1);
        dueNext("the second PERSON", first, 8 * 80, 1, 1, 8);
        first.undo();
        dueNext("the first one again", first, -30, 0, 1, 8);
    }

    private static void dueNextOfAllGains(GutterNine g) {
        int[] best = null;
        for (int i = 0; i < 4 * 4 * 64; i++) {
            int x = i % 8;
            int y = i / 8 % 8;
            int thing = i / 64 % 4;
            if (x < g.count(0) && y < g.count(1) && g.thing(thing, 3) == 64) {
                int gain = g.gain(i / 256, thing, x, y);
                if (best == null || gain > best[0]) {
                    best = new int[] {gain, i / 256, thing, y * 8 + x};
                }
            }
        }
        dueNext("of all gains", g, best[0], best[1], best[2], best[3]);
    }

    private static void nextRefused() {
        Trial.says("next: NoSuchElementException: others, nobody, nothing in hand");
        GutterNine g = Trial.of("ff ff", "person a arm 10;thing x shoe of a worth 1;");
        String ahead = Trial.all(g);
        Trial.dueToThrow("next(4)", () -> g.next(4));
        for (int far : FAR) {
            Trial.dueToThrow("next(" + far + ")", () -> g.next(far));
        }
        Trial.due("nothing came of it", Trial.all(g), ahead);
        GutterNine nobody = Trial.of("ff ff", "");
        GutterNine nothing = Trial.of("ff ff", "person a arm 10;");
        put(g, 0, 0, 0);
        for (int what = 0; what < 4; what++) {
            int asked = what;
            Trial.dueToThrow("nobody: next(" + what + ")", () -> nobody.next(asked));
            Trial.dueToThrow("no THING: next(" + what + ")", () -> nothing.next(asked));
            Trial.dueToThrow("nothing in hand: next(" + what + ")", () -> g.next(asked));
        }
    }

    private static void planOfOne() {
        Trial.says("PLAN of one throw (it may be left out): the greatest mean of what all in hand is worth (times 80)");
        Trial.due("nobody", new GutterNine().plan(1), 0);
        GutterNine g = Trial.of("ff ff", "person a arm 10;person b arm 5;thing x shoe of a worth 99;thing y shoe of a worth 9;"
            + "thing z stick of a worth 5;");
        Trial.due("nothing to throw at", g.plan(1), 113 * 80);
        put(g, 0, 0, 1);
        Trial.due("with the cheaper one", g.plan(1), (99 + 9) * 80);
        put(g, 2, 1, 1);
        Trial.due("with the one that is in hand", g.plan(1), 99 * 80);
        put(g, 1, 0, 0);
        Trial.due("nothing in hand", g.plan(1), 0);
        GutterNine left = Trial.of("ff ff", "person a arm 10;thing x shoe of a worth 1;thing y shoe of a worth 9;");
        put(left, 0, 0, 1);
        Trial.due("left out", left.plan(1), 9 * 80);
        GutterNine second = Trial.of("fff fff", "person a arm 0;person b arm 5;thing x shoe of a worth 20;thing y shoe of a worth 4;");
        put(second, 0, 1, 1);
        Trial.due("by the second PERSON: 40 bring it, 15 fall", second.plan(1), 20 * 40 + 4 * 15);
    }

    private static void planAtThingsAlone() {
        Trial.says("PLAN: at CELLS with a THING alone");
        GutterNine g = Trial.of("ff ff", "person a arm 0;thing x shoe of a worth 99;thing y shoe of a worth 0;");
        put(g, 0, 0, 1);
        Trial.due("a throw beside it would gain", g.next(0), 99 * 10);
        Trial.due("none at it", g.plan(1), 0);
        Trial.due("nor in two", g.plan(2), 0);
        put(g, 1, 1, 1);
        Trial.due("nothing in hand", g.plan(2), 0);
        GutterNine deep = Trial.of("ff ff ff ff ff ff ff ff", "person a arm 0;thing x shoe of a worth 99;thing y shoe of a worth 0;"
            + "thing z shoe of a worth 0;");
        put(deep, 0, 0, 7);
        Trial.due("none beside the roof", deep.plan(1), 0);
        Trial.due("in two, at the one that lies beside it by the first", deep.plan(2), 3 * 10 * 10 * 99);
        deep.toss(0, 2, 0, 0, 2);
        Trial.due("none at what is over", deep.plan(1), 0);
        Trial.due("nor in two", deep.plan(2), 0);
        GutterNine pipe = Trial.of("ff pf", "person a arm 0;thing x shoe of a worth 99;thing y shoe of a worth 0;"
            + "thing z shoe of a worth 0;");
        put(pipe, 0, 1, 1);
        put(pipe, 1, 0, 1);
        Trial.due("none at what is in a pipe: it is not on a CELL", pipe.plan(1), 0);
        Trial.due("beside it there is one", pipe.next(0), 99 * 10);
    }

    private static void planOfTwo() {
        Trial.says("PLAN of two throws (each may be left out): (times 6400)");
        Trial.due("nobody", new GutterNine().plan(2), 0);
        GutterNine g = Trial.of("ff ff ff", "person a arm 10;thing x shoe of a worth 99;thing y shoe of a worth 1;");
        put(g, 0, 0, 1);
        Trial.due("one throw knocks it a step", g.plan(1), 80);
        Trial.due("and there is nothing for the second", g.plan(2), 6400);
        GutterNine two = Trial.of("ff ff ff", "person a arm 10;thing x shoe of a worth 99;thing y shoe of a worth 1;"
            + "thing z shoe of a worth 2;");
        put(two, 0, 0, 1);
        Trial.due("a first throw that loses", two.plan(1), 3 * 80);
        Trial.due("a second one that brings it", two.plan(2), 99 * 6400);
        put(two, 1, 1, 1);
        Trial.due("one left is not enough", two.plan(2), 2 * 6400);
        GutterNine late = Trial.of("ff ff ff", "person a arm 10;thing s shoe of a worth 50;thing t shoe of a worth 60;"
            + "thing x shoe of a worth 99;thing y shoe of a worth 1;thing z shoe of a worth 2;");
        put(late, 2, 0, 1);
        Trial.due("by the last two of five", late.plan(2), (50 + 60 + 99) * 6400);
        GutterNine left = Trial.of("ff ff", "person a arm 10;thing x shoe of a worth 9;thing y shoe of a worth 5;");
        put(left, 0, 0, 1);
        Trial.due("the second is left out", left.plan(2), 9 * 6400);
        GutterNine most = Trial.of("ff ff", "person a arm 10;thing s shoe of a worth 99;"
            + "thing t shoe of a worth 99;thing u shoe of a worth 99;thing v shoe of a worth 99;thing w shoe of a worth 99;"
            + "thing x shoe of a worth 99;thing y shoe of a worth 99;thing z shoe of a worth 99;");
        Trial.due("the most that can be in hand", most.plan(2), 8 * 99 * 6400);
        put(most, 0, 0, 1);
        Trial.due("one of eight", most.plan(2), 7 * 99 * 6400);
        GutterNine means = Trial.of("ff ff", "person a arm 5;thing x shoe of a worth 8;thing y shoe of a worth 0;"
            + "thing z shoe of a worth 0;");
        put(means, 0, 0, 1);
        Trial.due("one: half", means.plan(1), 8 * 40);
        Trial.due("two: half of the other half, too", means.plan(2), 8 * (40 * 80 + 40 * 40));
    }

    private static void planRefused() {
        Trial.says("plan: NONE: others");
        GutterNine g = someGone();
        String ahead = Trial.all(g);
        for (int many : new int[] {0, 3, 4, -1, -2, Integer.MIN_VALUE, Integer.MAX_VALUE}) {
            Trial.due("plan(" + many + ")", g.plan(many), NONE);
        }
        g.plan(1);
        g.plan(2);
        Trial.due("nothing came of it", Trial.all(g), ahead);
    }

    private static void dueAlone(String when, GutterNine g, int thing, int chance, int person, int with) {
        int[] wants = {chance, person, with};
        for (int what = 0; what < 3; what++) {
            Trial.due(when + ": alone(" + thing + ", " + what + ")", g.alone(thing, what), wants[what]);
        }
    }

    private static void aloneTheGreatest() {
        Trial.says("ALONE: by the throws at its CELL: the greatest chance that it is in hand; it counts alone");
        GutterNine g = Trial.of("fff fff fff", "person a arm 3;person b arm 9;thing x shoe of a worth 0;"
            + "thing y shoe of a worth 99;thing z stick of a worth 99;");
        put(g, 0, 1, 2);
        dueAlone("by the last PERSON", g, 0, 72, 1, 1);
        g.undo();
        put(g, 0, 1, 1);
        dueAlone("with the last THING", g, 0, 72, 1, 2);
        GutterNine none = Trial.of("ff ff", "person a arm 0;thing x shoe of a worth 99;thing y shoe of a worth 0;");
        put(none, 0, 0, 1);
        dueAlone("at its CELL alone: by arm 0 no chance", none, 0, 0, 0, 1);
        GutterNine other = Trial.of("ff ff", "person a arm 0;thing x shoe of a worth 99;thing y shoe of a worth 0;"
            + "thing z shoe of a worth 50;");
        put(other, 0, 0, 1);
        put(other, 1, 1, 1);
        dueAlone("another one that comes does not count", other, 0, 0, 0, 2);
        GutterNine slips = Trial.of("ff ff ff", "person a arm 5;thing x shoe of a worth 1;thing y stick of a worth 1;");
        put(slips, 0, 0, 1);
        dueAlone("two steps", slips, 0, 40, 0, 1);
    }

    private static void aloneTheFirst() {
        Trial.says("ALONE: by which PERSON and THING (the first)");
        GutterNine g = Trial.of("ff ff", "person a arm 4;person b arm 8;person c arm 8;thing x ball of a worth 1;"
            + "thing y shoe of a worth 9;thing z stick of a worth 3;thing w ball of a worth 2;");
        put(g, 3, 0, 1);
        dueAlone("of equal ones", g, 3, 64, 1, 0);
        put(g, 0, 1, 1);
        dueAlone("the first in hand", g, 3, 64, 1, 1);
        GutterNine no = Trial.of("ff ff ff", "person a arm 10;person b arm 10;thing x shoe of a worth 1;thing y ball of a worth 9;");
        put(no, 1, 0, 0);
        dueAlone("no chance: the first", no, 1, 0, 0, 0);
    }

    private static void aloneRefused() {
        Trial.says("alone: NONE: others, it is not on the roof, nobody, nothing in hand");
        GutterNine g = someGone();
        String ahead = Trial.all(g);
        for (int what = 0; what < 3; what++) {
            Trial.due("on the roof", g.alone(0, what) >= 0, true);
            Trial.due("in a pipe", g.alone(1, what), NONE);
            Trial.due("over", g.alone(2, what), NONE);
            Trial.due("in hand", g.alone(3, what), NONE);
            Trial.due("no such THING", g.alone(4, what), NONE);
            for (int far : FAR) {
                Trial.due("THING " + far, g.alone(far, what), NONE);
            }
            Trial.due("nobody", new GutterNine().alone(0, what), NONE);
        }
        Trial.due("what 3", g.alone(0, 3), NONE);
        for (int far : FAR) {
            Trial.due("what " + far, g.alone(0, far), NONE);
        }
        Trial.due("nothing came of it", Trial.all(g), ahead);
        put(g, 3, 2, 1);
        for (int what = 0; what < 3; what++) {
            Trial.due("nothing in hand", g.alone(0, what), NONE);
        }
    }

    private static void seenKinds() {
        Trial.says("see: in a column a KIND, NONE: nothing, -2: it is not told any more: true");
        GutterNine g = Trial.of("ffffffff ffffffff", FOUR);
        for (int x = 0; x < 8; x++) {
            for (int kind = -1; kind <= 3; kind++) {
                Trial.due("see(" + x + ", " + kind + ")", g.see(x, kind), true);
                Trial.due("count(11)", g.count(11), x + 1);
            }
        }
        for (int x = 0; x < 8; x++) {
            Trial.due("see(" + x + ", -2)", g.see(x, -2), true);
            Trial.due("count(11)", g.count(11), 7 - x);
            Trial.due("once more", g.see(x, -2), true);
            Trial.due("count(11)", g.count(11), 7 - x);
        }
        Trial.due("it is no step", g.count(10), 0);
    }

    private static void seenRefused() {
        Trial.says("see: false: others");
        for (int wide = 2; wide <= 8; wide++) {
            GutterNine g = Trial.of("f".repeat(wide) + " " + "f".repeat(wide), FOUR);
            g.see(0, 1);
            Trial.due("the last column", g.see(wide - 1, -1), true);
            for (int x : new int[] {wide, wide + 1, 8, 64, -1, Integer.MIN_VALUE, Integer.MAX_VALUE}) {
                Trial.due("column " + x, g.see(x, 0), false);
                Trial.due("column " + x, g.see(x, -2), false);
            }
            for (int kind : new int[] {4, 5, -3, -4, Integer.MIN_VALUE, Integer.MAX_VALUE}) {
                Trial.due("KIND " + kind, g.see(0, kind), false);
            }
            Trial.due("count(11)", g.count(11), 2);
            Trial.due("what was told stays", g.lies(0, 0, 0, 0, 0), 80);
        }
    }

    private static void liesOfSlipsThatCanBe() {
        Trial.says("LIES: of a THROW: SLIPS (that can be: of more than no eightieth) by which all columns are as SEEN behind it");
        GutterNine g = Trial.of("fff fff fff", FOUR);
        int[] places = {1, 8, 9};
        for (int person = 0; person < 3; person++) {
            Trial.due("nothing SEEN, PERSON " + person, g.lies(person, 0, 1, 1, 0), 80);
            Trial.due("nothing SEEN, PERSON " + person + ", places", g.lies(person, 0, 1, 1, 1), places[person]);
        }
        g.see(1, 1);
        Trial.due("arm 10: straight", g.lies(0, 0, 1, 1, 0), 80);
        Trial.due("arm 0: above or below", g.lies(1, 0, 1, 1, 0), 20);
        Trial.due("arm 0: two places", g.lies(1, 0, 1, 1, 1), 2);
        Trial.due("arm 5: the three", g.lies(2, 0, 1, 1, 0), 50);
        Trial.due("arm 5: three places", g.lies(2, 0, 1, 1, 1), 3);
        g.see(0, -1);
        g.see(2, -1);
        Trial.due("all columns told", g.lies(2, 0, 1, 1, 0), 50);
        g.see(2, 1);
        Trial.due("two shoes can't be", g.lies(2, 0, 1, 1, 0), NONE);
        put(g, 2, 2, 0);
        Trial.due("one was there", g.lies(2, 0, 1, 1, 0), 50);
        g.see(1, -1);
        Trial.due("hit or lying there: all of that column", g.lies(2, 0, 1, 1, 0), 15);
        GutterNine nine = Trial.of("fff fff fff", "person a arm 9;person b arm 1;thing x shoe of a worth 1;");
        Trial.due("one eightieth each", nine.lies(0, 0, 1, 1, 1), 9);
        nine.see(0, 1);
        Trial.due("three of them", nine.lies(0, 0, 1, 1, 0), 3);
        Trial.due("three places", nine.lies(0, 0, 1, 1, 1), 3);
        nine.see(0, -1);
        nine.see(1, 1);
        Trial.due("eight eightieths, and twice nine", nine.lies(1, 0, 1, 1, 0), 8 + 18);
    }

    private static void liesNearestTheStreet() {
        Trial.says("SEEN from below: in a column the THING nearest the street is of a KIND, or there is none");
        String[] kinds = {"ball", "shoe", "frisbee", "stick"};
        for (int kind = 0; kind < 4; kind++) {
            GutterNine g = Trial.of("ff ff", "person a arm 10;thing x " + kinds[kind] + " of a worth 1;");
            for (int seen = -1; seen < 4; seen++) {
                g.see(0, seen);
                Trial.due(kinds[kind] + " as " + seen, g.lies(0, 0, 0, 0, 0), seen == kind ? 80 : NONE);
                Trial.due("none there as " + seen, g.lies(0, 0, 1, 0, 0), seen == -1 ? 80 : NONE);
            }
        }
        GutterNine two = Trial.of("ff ff ff", FOUR);
        put(two, 1, 0, 1);
        two.see(0, 3);
        Trial.due("behind the stick", two.lies(0, 0, 0, 0, 0), 80);
        Trial.due("ahead of the stick", two.lies(0, 0, 0, 2, 0), NONE);
        two.see(0, 1);
        Trial.due("behind the stick, a shoe SEEN", two.lies(0, 0, 0, 0, 0), NONE);
        Trial.due("ahead of the stick, a shoe SEEN", two.lies(0, 0, 0, 2, 0), 80);
        GutterNine pipe = Trial.of("ff pf", FOUR);
        pipe.see(0, -1);
        Trial.due("what is in a pipe is not on the roof", pipe.lies(0, 0, 0, 1, 0), 80);
        GutterNine last = Trial.of("ffffffff ffffffff ffffffff ffffffff ffffffff ffffffff ffffffff ffffffff", FOUR);
        last.see(7, 1);
        Trial.due("the last row of the last column", last.lies(0, 0, 7, 7, 2), 63);
        last.see(7, -1);
        Trial.due("it is SEEN there", last.lies(0, 0, 7, 7, 2), NONE);
    }

    private static void liesUnlikePlaces() {
        Trial.says("LIES: the places it may be then: how many unlike ones");
        GutterNine g = Trial.of("rfl fff fff", FOUR);
        Trial.due("a shoe at the corner: 4 CELLS, over, in hand", g.lies(2, 0, 0, 0, 1), 6);
        Trial.due("a ball: it rolls to one of them", g.lies(2, 3, 0, 0, 1), 5);
        Trial.due("arm 10: one", g.lies(0, 3, 0, 0, 1), 1);
        GutterNine nine = Trial.of("ffff ffff ffff", FOUR);
        Trial.due("nine places", nine.lies(2, 0, 1, 1, 1), 9);
        Trial.due("eight", nine.lies(1, 0, 1, 1, 1), 8);
        GutterNine pipes = Trial.of("ppp ppp ppp", FOUR);
        Trial.due("in pipes alike", pipes.lies(2, 0, 1, 1, 1), 1);
        Trial.due("in a pipe or in hand or over", pipes.lies(2, 0, 0, 0, 1), 3);
    }

    private static void liesTheLeast() {
        Trial.says("LIES: the places it may be then: .. the least");
        GutterNine g = Trial.of("fff fff fff", FOUR);
        Trial.due("the first CELL", g.lies(2, 0, 1, 1, 2), 0);
        Trial.due("arm 10", g.lies(0, 0, 1, 1, 2), 9);
        Trial.due("at the last CELL", g.lies(2, 0, 2, 2, 2), 9);
        g.see(0, -1);
        g.see(1, -1);
        g.see(2, -1);
        Trial.due("off the roof: in hand", g.lies(2, 0, 2, 2, 2), 64);
        Trial.due("off the roof: over", g.lies(2, 0, 1, 0, 2), 65);
        GutterNine pipes = Trial.of("ppp ppp ppp", FOUR);
        Trial.due("in a pipe", pipes.lies(2, 0, 1, 1, 2), 66);
        Trial.due("over", pipes.lies(2, 0, 1, 0, 2), 65);
        Trial.due("in hand", pipes.lies(2, 0, 1, 2, 2), 64);
    }

    private static void liesNone() {
        Trial.says("lies: NONE: others, it is not in hand, none");
        GutterNine g = someGone();
        g.see(0, 1);
        String ahead = Trial.all(g);
        for (int what = 0; what < 3; what++) {
            Trial.due("on the roof", g.lies(0, 0, 2, 1, what), NONE);
            Trial.due("in a pipe", g.lies(0, 1, 2, 1, what), NONE);
            Trial.due("over", g.lies(0, 2, 2, 1, what), NONE);
            Trial.due("in hand", g.lies(0, 3, 2, 1, what) >= 0, true);
            Trial.due("no such PERSON", g.lies(3, 3, 2, 1, what), NONE);
            Trial.due("no such THING", g.lies(0, 4, 2, 1, what), NONE);
            Trial.due("no such column", g.lies(0, 3, 3, 1, what), NONE);
            Trial.due("no such row", g.lies(0, 3, 2, 2, what), NONE);
            for (int far : FAR) {
                Trial.due("PERSON " + far, g.lies(far, 3, 2, 1, what), NONE);
                Trial.due("THING " + far, g.lies(0, far, 2, 1, what), NONE);
                Trial.due("column " + far, g.lies(0, 3, far, 1, what), NONE);
                Trial.due("row " + far, g.lies(0, 3, 2, far, what), NONE);
            }
            Trial.due("none: it would lie ahead of the shoe", g.lies(0, 3, 0, 1, what), NONE);
        }
        Trial.due("what 3", g.lies(0, 3, 2, 1, 3), NONE);
        for (int far : FAR) {
            Trial.due("what " + far, g.lies(0, 3, 2, 1, far), NONE);
        }
        Trial.due("nothing came of it", Trial.all(g), ahead);
    }
}
