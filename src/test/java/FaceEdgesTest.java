/** The promises: what each call refuses and what it answers at its edges, where the other tests of edges do not. */
public final class FaceEdgesTest {
    private static final int NONE = GutterNine.NONE;
    private static final int[] ODD = {-1, -2, -3, 4, 5, 7, 8, 9, 13, 16, 63, 64, 65, 66, 67, 99, 100, 101, 127, 128, 255,
        999, 1000, 9999, 10000, 65536, Integer.MAX_VALUE - 1, Integer.MAX_VALUE, Integer.MIN_VALUE, Integer.MIN_VALUE + 1};
    private static final String YARD = "person a arm 10;person b arm 3;thing x ball of a worth 9;thing y shoe of b worth 2;"
        + "thing z frisbee of b worth 7;window 0 0 reach 8;shot left 0 up 1 times 1;";

    public static void main(String[] args) {
        aNewObject();
        theConstant();
        objectsApart();
        tiles();
        tilesOfWhat();
        things();
        arms();
        whoThrewItLast();
        tossRefused();
        tossWhere();
        rollsRefused();
        rollsOfABall();
        countEach();
        countRefused();
        hoseHowMany();
        undoOfWhatIsRefused();
        whatIsAskedChangesNothing();
        nothingElseIsThrown();
        aFullYard();
        usedFor512Calls();
        Trial.end();
    }

    private static int put(GutterNine g, int thing, int x, int y) {
        int at = g.toss(0, thing, x, y, 0);
        Trial.due("put " + thing + " at " + x + ", " + y, at >= 0, true);
        return at;
    }

    private static void aNewObject() {
        Trial.says("GutterNine(): A flat roof of 2 by 2, nobody");
        GutterNine g = new GutterNine();
        int[] counts = {2, 2, 0, 0, 0, 0, 0, 0, 0, 0, 0, 0, 0};
        for (int what = 0; what < counts.length; what++) {
            Trial.due("count(" + what + ")", g.count(what), counts[what]);
        }
        for (int cell = 0; cell < 4; cell++) {
            int x = cell % 2;
            int y = cell / 2;
            Trial.due("tile " + cell, g.tile(x, y, 0), 0);
            Trial.due("on it " + cell, g.tile(x, y, 1), NONE);
            Trial.due("rolls " + cell, g.rolls(x, y), y * 8 + x);
            Trial.due("toss", g.toss(0, 0, x, y, 0), NONE);
            Trial.due("odds", g.odds(0, 0, x, y, 0), NONE);
            Trial.due("lies", g.lies(0, 0, x, y, 0), NONE);
            Trial.due("otherwise", g.otherwise(x, y, y * 8 + x, 0), 0);
        }
        Trial.due("roof() of nothing", g.roof(), 1);
        Trial.due("yard() of nothing", g.yard(), 0);
        Trial.due("thing", g.thing(0, 0), NONE);
        Trial.due("arm", g.arm(0), NONE);
        Trial.due("fetch", g.fetch(0), NONE);
        Trial.due("broom", g.broom(), NONE);
        Trial.due("undo", g.undo(), false);
        Trial.due("plan", g.plan(2), 0);
        Trial.due("alone", g.alone(0, 0), NONE);
        Trial.due("washed", g.washed(1, 1), 0);
        Trial.due("pays", g.pays(0, 1), NONE);
        Trial.due("see", g.see(1, 0), true);
        Trial.due("pitch", g.pitch(3), 0);
        Trial.due("rests", g.rests(0, NONE), NONE);
        Trial.due("summer", g.summer(0, 1, 0), NONE);
        Trial.due("days", g.days(1), 1);
    }

    private static void theConstant() {
        Trial.says("The constants: NONE = -1");
        Trial.due("NONE", GutterNine.NONE, -1);
    }

    private static void objectsApart() {
        Trial.says("each object is its own");
        GutterNine one = Trial.of("dd ff", YARD);
        GutterNine other = new GutterNine();
        put(one, 0, 0, 0);
        one.days(2);
        Trial.due("the other's roof", other.tile(0, 0, 0), 0);
        Trial.due("the other's THINGS", other.count(3), 0);
        Trial.due("the other's day", other.count(8), 0);
        Trial.due("the other's UNDO", other.undo(), false);
    }

    private static void tiles() {
        Trial.says("tile: Of a CELL, what 0: its tile (0 f, .. 8 c), 1: the THING on it (or in it: of a pipe); NONE: others, none");
        GutterNine g = Trial.of("fdu lrm gpc", YARD);
        for (int y = -1; y <= 8; y++) {
            for (int x = -1; x <= 8; x++) {
                boolean there = x >= 0 && x < 3 && y >= 0 && y < 3;
                Trial.due("tile(" + x + ", " + y + ", 0)", g.tile(x, y, 0), there ? y * 3 + x : NONE);
                Trial.due("tile(" + x + ", " + y + ", 1)", g.tile(x, y, 1), NONE);
            }
        }
        put(g, 1, 1, 2);
        put(g, 0, 0, 2);
        Trial.due("in the pipe", g.tile(1, 2, 1), 1);
        Trial.due("the pipe is one all the same", g.tile(1, 2, 0), 7);
        Trial.due("on the gutter", g.tile(0, 2, 1), 0);
        Trial.due("the chimney", g.tile(2, 2, 1), NONE);
    }

    private static void tilesOfWhat() {
        Trial.says("tile: NONE: others");
        GutterNine g = Trial.of("fdu lrm gpc", YARD);
        for (int odd : ODD) {
            if (odd < 0 || odd > 2) {
                Trial.due("column " + odd, g.tile(odd, 0, 0), NONE);
                Trial.due("row " + odd, g.tile(0, odd, 0), NONE);
                Trial.due("what " + odd, g.tile(0, 0, odd), NONE);
            }
        }
        Trial.due("what 2", g.tile(1, 1, 2), NONE);
    }

    private static void things() {
        Trial.says("thing: what 0: KIND, 1: its owner, 2: worth, 3: where it is, 4: who threw it last (NONE: nobody); NONE: others");
        GutterNine g = Trial.of("ff ff", YARD);
        int[][] wants = {{0, 0, 9, 64, NONE}, {1, 1, 2, 64, NONE}, {2, 1, 7, 64, NONE}};
        for (int thing = 0; thing < 3; thing++) {
            for (int what = 0; what < 5; what++) {
                Trial.due("thing(" + thing + ", " + what + ")", g.thing(thing, what), wants[thing][what]);
                Trial.due("thing(3, " + what + ")", g.thing(3, what), NONE);
            }
            Trial.due("what 5", g.thing(thing, 5), NONE);
        }
        for (int odd : ODD) {
            Trial.due("THING " + odd, g.thing(odd, 0), NONE);
            Trial.due("what " + odd + ": others, or nobody", g.thing(0, odd), NONE);
        }
        g.toss(1, 0, 0, 0, 0);
        Trial.due("thrown by the second", g.thing(0, 4), 1);
        Trial.due("it is still the first's", g.thing(0, 1), 0);
        g.toss(0, 1, 0, 0, 4);
        Trial.due("thrown, and fallen", g.thing(1, 4), 0);
    }

    private static void arms() {
        Trial.says("arm: Arm of a PERSON; NONE: others");
        GutterNine g = Trial.of("ff ff", YARD);
        Trial.due("arm(0)", g.arm(0), 10);
        Trial.due("arm(1)", g.arm(1), 3);
        Trial.due("arm(2)", g.arm(2), NONE);
        Trial.due("arm(3)", g.arm(3), NONE);
        for (int odd : ODD) {
            Trial.due("arm(" + odd + ")", g.arm(odd), NONE);
        }
    }

    private static void whoThrewItLast() {
        Trial.says("thing: 4: who threw it last, whatever moves it then");
        GutterNine g = Trial.of("fff ggp", YARD + "first 5;");
        Trial.due("nobody", g.thing(0, 4), NONE);
        g.toss(1, 0, 1, 0, 0);
        g.gale(3);
        Trial.due("a gale", g.thing(0, 3) * 10 + g.thing(0, 4), 21);
        g.broom();
        Trial.due("a broom", g.thing(0, 3) * 10 + g.thing(0, 4), 641);
        g.toss(1, 0, 0, 1, 0);
        g.hose(1);
        Trial.due("a hose", g.thing(0, 3) * 10 + g.thing(0, 4), 661);
        g.days(1);
        Trial.due("father", g.thing(0, 3) * 10 + g.thing(0, 4), 641);
        g.toss(0, 0, 0, 0, 2);
        Trial.due("thrown by another one", g.thing(0, 3) * 10 + g.thing(0, 4), 650);
        g.fetch(1);
        Trial.due("fetched by another one", g.thing(0, 3) * 10 + g.thing(0, 4), 640);
        g.toss(0, 1, 0, 0, 0);
        g.toss(1, 0, 0, 0, 0);
        Trial.due("what is hit", g.thing(1, 3) * 10 + g.thing(1, 4), 80);
        g.undo();
        g.undo();
        Trial.due("undone", g.thing(1, 3) * 10 + g.thing(1, 4), 640 - 1);
        Trial.due("the third nobody threw", g.thing(2, 4), NONE);
    }

    private static void tossRefused() {
        Trial.says("toss: NONE: others, it is not in hand");
        GutterNine g = Trial.of("fff fff", YARD);
        put(g, 1, 2, 1);
        String ahead = Trial.all(g);
        Trial.due("PERSON 2", g.toss(2, 0, 0, 0, 0), NONE);
        Trial.due("THING 3", g.toss(0, 3, 0, 0, 0), NONE);
        Trial.due("column 3", g.toss(0, 0, 3, 0, 0), NONE);
        Trial.due("row 2", g.toss(0, 0, 0, 2, 0), NONE);
        Trial.due("row 3", g.toss(0, 0, 0, 3, 0), NONE);
        Trial.due("not in hand", g.toss(0, 1, 0, 0, 0), NONE);
        Trial.due("at its own CELL", g.toss(0, 1, 2, 1, 0), NONE);
        Trial.due("beside the roof, a SLIP back to it", g.toss(0, 0, -1, 0, 5), NONE);
        Trial.due("below the roof, a SLIP back to it", g.toss(0, 0, 0, 2, 2), NONE);
        for (int odd : ODD) {
            Trial.due("PERSON " + odd, g.toss(odd, 0, 0, 0, 0), NONE);
            Trial.due("THING " + odd, g.toss(0, odd, 0, 0, 0), NONE);
            Trial.due("column " + odd, g.toss(0, 0, odd, 0, 0), NONE);
            Trial.due("row " + odd, g.toss(0, 0, 0, odd, 0), NONE);
            if (odd < 0 || odd > 8) {
                Trial.due("SLIP " + odd, g.toss(0, 0, 0, 0, odd), NONE);
            }
        }
        Trial.due("nothing came of it", Trial.all(g), ahead);
    }

    private static void tossWhere() {
        Trial.says("toss: A THROW by hand: where it is then");
        GutterNine g = Trial.of("fpc ffd", YARD);
        Trial.due("in a pipe", g.toss(0, 0, 1, 0, 0), 66);
        Trial.due("a full one", g.toss(0, 1, 1, 0, 0), 64);
        Trial.due("a chimney", g.toss(0, 1, 2, 0, 0), 64);
        Trial.due("over", g.toss(0, 1, 2, 0, 2), 65);
        Trial.due("it rolls off", g.toss(0, 2, 2, 1, 0), 64);
        Trial.due("a CELL", g.toss(0, 2, 1, 1, 0), 9);
        Trial.due("an arm of ten may slip by hand", g.count(10), 6);
    }

    private static void rollsRefused() {
        Trial.says("rolls: on a free CELL now; NONE: others, a chimney, a pipe, a THING is there");
        GutterNine g = Trial.of("fpc ffr", YARD);
        Trial.due("a pipe", g.rolls(1, 0), NONE);
        Trial.due("a chimney", g.rolls(2, 0), NONE);
        Trial.due("free", g.rolls(0, 0), 0);
        put(g, 1, 0, 0);
        Trial.due("a THING is there", g.rolls(0, 0), NONE);
        g.undo();
        Trial.due("free again", g.rolls(0, 0), 0);
        put(g, 0, 0, 1);
        Trial.due("the first THING is there", g.rolls(0, 1), NONE);
        Trial.due("column 3", g.rolls(3, 0), NONE);
        Trial.due("row 2", g.rolls(0, 2), NONE);
        for (int odd : ODD) {
            Trial.due("column " + odd, g.rolls(odd, 0), NONE);
            Trial.due("row " + odd, g.rolls(0, odd), NONE);
        }
    }

    private static void rollsOfABall() {
        Trial.says("rolls: Where a ball would stop that is put on a CELL now (64, 65, 66 likewise)");
        GutterNine g = Trial.of("ufr dpr rrd", YARD);
        int[] wants = {65, 1, 64, 64, NONE, 64, 64, 64, 64};
        for (int cell = 0; cell < 9; cell++) {
            Trial.due("rolls " + cell, g.rolls(cell % 3, cell / 3), wants[cell]);
        }
        GutterNine pipe = Trial.of("rp ff", YARD);
        Trial.due("into a pipe", pipe.rolls(0, 0), 66);
        put(pipe, 1, 1, 0);
        Trial.due("a full one now", pipe.rolls(0, 0), 64);
        GutterNine stop = Trial.of("rrf fff", YARD);
        Trial.due("no THING there", stop.rolls(0, 0), 2);
        put(stop, 1, 2, 0);
        Trial.due("a THING there now", stop.rolls(0, 0), 1);
        Trial.due("nothing is put there", stop.count(5), 1);
    }

    private static void countEach() {
        Trial.says("count: what 0: wide, 1: deep, 2: PEOPLE, .. 12: signs on the TAPE");
        GutterNine g = Trial.of("fpuf ffff fffp", "person a arm 10;person b arm 1;person c arm 1;thing s shoe of a worth 1;"
            + "thing t shoe of a worth 1;thing u shoe of a worth 1;thing v shoe of a worth 1;thing w shoe of a worth 1;"
            + "thing x shoe of a worth 1;thing y shoe of a worth 1;thing z shoe of a worth 1;damage 5;");
        put(g, 0, 0, 0);
        put(g, 1, 1, 1);
        put(g, 2, 2, 2);
        put(g, 3, 1, 0);
        put(g, 4, 3, 2);
        g.toss(0, 5, 2, 0, 2);
        g.days(3);
        g.see(0, 1);
        g.see(3, -1);
        Trial.feed(g, "row ff ;");
        int[] wants = {4, 3, 3, 8, 2, 3, 1, 2, 3, 15, 7, 2, 8};
        for (int what = 0; what < wants.length; what++) {
            Trial.due("count(" + what + ")", g.count(what), wants[what]);
        }
    }

    private static void countRefused() {
        Trial.says("count: NONE for another what");
        GutterNine g = Trial.of("ff ff", YARD);
        Trial.due("count(12)", g.count(12), 0);
        for (int odd : ODD) {
            if (odd < 0 || odd > 12) {
                Trial.due("count(" + odd + ")", g.count(odd), NONE);
            }
        }
    }

    private static void hoseHowMany() {
        Trial.says("hose: HOSE by hand: how many it moved");
        GutterNine g = Trial.of("gggp ffff", YARD);
        Trial.due("nothing there", g.hose(0), 0);
        put(g, 0, 2, 0);
        put(g, 1, 1, 0);
        put(g, 2, 0, 0);
        Trial.due("three", g.hose(0), 3);
        Trial.due("none is left", g.hose(0), 0);
        Trial.due("each can be undone", g.count(10), 6);
    }

    private static void undoOfWhatIsRefused() {
        Trial.says("undo: false: nothing can be; what is refused is no step");
        GutterNine g = Trial.of("ff ff", "person a arm 10;thing x ball of a worth 9;");
        g.toss(0, 0, 2, 0, 0);
        g.toss(0, 0, 0, 0, 9);
        g.hose(2);
        g.broom();
        g.gale(4);
        g.days(0);
        g.days(101);
        g.fetch(1);
        g.mark(0, true);
        g.see(2, 0);
        Trial.due("count(10)", g.count(10), 0);
        Trial.due("undo()", g.undo(), false);
        g.days(1);
        g.days(0);
        Trial.due("the one that was not", g.undo(), true);
        Trial.due("none", g.undo(), false);
    }

    private static int caught(Trial.Call call) {
        try {
            return call.answer();
        } catch (java.util.NoSuchElementException e) {
            return NONE;
        }
    }

    private static void askAll(GutterNine g, int a, int b, int c, int d, int e) {
        g.tile(a, b, c);
        g.thing(a, b);
        g.arm(a);
        g.rolls(a, b);
        g.odds(a, b, c, d, e);
        caught(() -> g.gain(a, b, c, d));
        caught(() -> g.next(a));
        g.plan(a);
        g.alone(a, b);
        g.washed(a, b);
        g.blown(a);
        caught(() -> g.await(a));
        g.lies(a, b, c, d, e);
        g.pitch(a);
        g.pays(a, b);
        g.rests(a, b);
        g.otherwise(a, b, c, d);
        g.summer(a, b, c);
        g.count(a);
    }

    private static void whatIsAskedChangesNothing() {
        Trial.says("Nothing is promised beyond the answers and state changes described above");
        GutterNine g = Trial.of("rfdp gpgg uflc", YARD);
        put(g, 0, 3, 1);
        put(g, 1, 1, 0);
        g.days(2);
        g.see(1, 1);
        String ahead = Trial.all(g);
        for (int a = 0; a <= 3; a++) {
            for (int b = 0; b <= 2; b++) {
                for (int c = 0; c <= 8; c++) {
                    askAll(g, a, b, c % 4, c / 4, a);
                    Trial.due("asked with " + a + ", " + b + ", " + c, Trial.all(g), ahead);
                }
            }
        }
    }

    private static void doAll(GutterNine g, int a, int b, int c, int d, int e) {
        g.feed(a * 4294967296L + b, c, d);
        g.toss(a, b, c, d, e);
        g.hose(a);
        g.broom();
        g.gale(a);
        g.days(a);
        g.fetch(a);
        g.see(a, b);
        g.mark(a, b > 0);
        g.undo();
        g.roof();
        g.yard();
    }

    private static void nothingElseIsThrown() {
        Trial.says("NoSuchElementException: gain, next, await alone; no other call throws, whatever it is given");
        String[] roofs = {"ff ff", "rfdp gpgg uflc", "gggggggp uuuuuuuu dddddddd llllllll rrrrrrrr mmmmmmmm ffffffff pppppppc"};
        String[] yards = {"", "person a arm 1;", YARD};
        String thrown = "";
        for (String rows : roofs) {
            for (String yard : yards) {
                for (int i = 0; i < ODD.length; i++) {
                    GutterNine g = Trial.of(rows, yard);
                    g.toss(0, 0, 1, 1, 0);
                    try {
                        for (int j = 0; j < ODD.length; j++) {
                            int k = ODD[(i + j) % ODD.length];
                            askAll(g, ODD[i], ODD[j], k, ODD[j], j % 6);
                            askAll(g, j % 4, i % 3, ODD[i], ODD[j], k);
                            doAll(g, ODD[i], ODD[j], k, j % 3, j % 9);
                        }
                    } catch (RuntimeException e) {
                        thrown = e.toString();
                    }
                }
            }
        }
        Trial.due("thrown", thrown, "");
    }

    private static final String FULL = "person a arm 10;person b arm 9;person c arm 5;person d arm 0;"
        + "thing s ball of a worth 99;thing t shoe of b worth 98;thing u frisbee of c worth 97;thing v stick of d worth 96;"
        + "thing w ball of d worth 95;thing x shoe of c worth 94;thing y frisbee of b worth 93;thing z stick of a worth 92;"
        + "shot left 8 up 1 times 1;shot right 8 up 8 times 2;shot left 0 up 1 times 4;shot left 0 up 8 times 8;"
        + "shot right 7 up 3 times 16;shot left 7 up 9 times 32;net 12;window 7 7 reach 8;first 6;temper lost;damage 1;";
    private static final String EIGHT_ROWS = "ffffffff ffffffff ffffffff ffffffff ffffffff ffffffff ffffffff ggggggpp";

    private static void aFullYard() {
        Trial.says("4 PEOPLE, 8 THINGS, 6 shots on 8 by 8 CELLS: each call answers");
        GutterNine g = Trial.of(EIGHT_ROWS, FULL);
        Trial.due("next: the cheapest at a corner by arm 0", g.next(0), -92 * 30);
        Trial.due("next: PERSON", g.next(1), 3);
        Trial.due("next: THING", g.next(2), 7);
        Trial.due("next: CELL", g.next(3), 56);
        for (int person = 0; person < 4; person++) {
            Trial.due("nothing is lost", g.pays(person, 0) + g.pays(person, 1) + g.pays(person, 2), 0);
        }
        for (int thing = 0; thing < 8; thing++) {
            put(g, thing, thing, 7);
        }
        Trial.due("on the roof", g.count(5), 6);
        Trial.due("in pipes", g.count(7), 2);
        int[] own = {99 + 92, 98 + 93, 97 + 94, 96 + 95};
        for (int person = 0; person < 4; person++) {
            Trial.due("of his own", g.pays(person, 2), own[person]);
            Trial.due("all by four", g.pays(person, 1), 764 / 4);
            Trial.due("that he threw", g.pays(person, 0), person == 0 ? 764 : 0);
        }
        Trial.due("washed: to a full pipe", g.washed(7, 0), 63);
        Trial.due("the last one is in reach", g.hose(7), 6);
        Trial.due("into hand", g.count(4), 6);
        put(g, 5, 7, 0);
        Trial.due("alone", g.alone(5, 0), 0);
        Trial.due("the pitch at the last column", g.pitch(9), 4 + 8 + 32);
        Trial.due("of nothing over nobody would fetch", g.rests(1, 0), 4095);
        Trial.due("all rest", g.rests(0, NONE), 4096);
        Trial.due("plan(1)", g.plan(1), 80 * (764 - 93 - 92 - 94));
        Trial.due("summer", g.summer(9999, 60, 0) + g.summer(9999, 60, 1) + g.summer(9999, 60, 2), 8);
        for (int thing = 0; thing < 6; thing++) {
            g.toss(thing % 4, thing == 5 ? 0 : thing, thing, 0, 2);
        }
        Trial.due("over", g.count(6), 5);
        Trial.due("99, 98, 97, 96 + 95 a day: one fetches", g.rests(999, NONE) > 1, true);
        Trial.due("fetched", g.fetch(3), 5);
    }

    private static void usedFor512Calls() {
        Trial.says("An object is used for at most 512 calls after it has been made");
        GutterNine g = new GutterNine();
        for (int i = 1; i <= 510; i++) {
            g.days(100);
        }
        Trial.due("call 511", g.days(100), 51100);
        Trial.due("call 512", g.undo(), true);
        GutterNine paid = Trial.of("pp ff", "person a arm 10;thing x shoe of a worth 1;first 6;damage 99;temper 99;");
        for (int i = 0; i < 80; i++) {
            put(paid, 0, 0, 0);
            paid.days(7);
        }
        Trial.due("all that is paid", paid.count(9), 80 * 8 * 99);
    }
}
