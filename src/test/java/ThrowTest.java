/** Promises 15 to 20 and 25: what a throw may bring, which is next, plans, and where it must lie. */
public final class ThrowTest {
    private static final int NONE = GutterNine.NONE;

    public static void main(String[] args) {
        odds();
        gains();
        next();
        plans();
        alone();
        lies();
        byTosses();
        Trial.end();
    }

    /** Arm 6: 48 straight, 4 each. The pipe right below, the ridge above, a chimney to the right. */
    private static GutterNine mixed() {
        return Trial.of("fff fdc fpf", "person a arm 6;person b arm 10;person c arm 0;"
            + "thing ba ball of a worth 7;thing sh shoe of a worth 5;thing st stick of b worth 2;");
    }

    private static void odds() {
        GutterNine g = mixed();
        int[] straight = {0, 0, 0, 0, 80};
        int[] a = {0, 4, 24, 0, 52};
        int[] c = {0, 10, 60, 0, 10};
        for (int what = 0; what <= 4; what++) {
            Trial.due("odds(1, 0, 1, 1, " + what + ")", g.odds(1, 0, 1, 1, what), straight[what]);
            Trial.due("odds(0, 0, 1, 1, " + what + ")", g.odds(0, 0, 1, 1, what), a[what]);
            Trial.due("odds(2, 0, 1, 1, " + what + ")", g.odds(2, 0, 1, 1, what), c[what]);
        }
        Trial.due("the ridge", g.odds(2, 0, 1, 0, 3), 30);
        Trial.due("the corner", g.odds(2, 0, 0, 0, 3), 20);
        Trial.due("beside the corner", g.odds(2, 1, 0, 0, 1), 30);
        g.toss(0, 1, 0, 2, 0);
        Trial.due("the shoe would come", g.odds(1, 0, 0, 2, 0), 80);
        Trial.due("the shoe would come at times", g.odds(0, 0, 0, 2, 0), 48);
        Trial.due("nothing moved", g.thing(1, 3), 16);
        Trial.due("nothing to undo of it", g.count(10), 1);
        Trial.due("nobody threw it", g.thing(0, 4), NONE);
        Trial.due("odds, what 5", g.odds(0, 0, 0, 0, 5), NONE);
        Trial.due("odds, what -1", g.odds(0, 0, 0, 0, -1), NONE);
        Trial.due("odds, not in hand", g.odds(0, 1, 0, 0, 0), NONE);
        Trial.due("odds, no such thing", g.odds(0, 3, 0, 0, 0), NONE);
        Trial.due("odds, nobody such", g.odds(3, 0, 0, 0, 0), NONE);
        Trial.due("odds, no such cell", g.odds(0, 0, 3, 0, 0), NONE);
        Trial.due("odds, no such row", g.odds(0, 0, 0, 3, 0), NONE);
    }

    private static void gains() {
        GutterNine g = mixed();
        Trial.due("gain of a sure loss", g.gain(1, 0, 1, 1), -7 * 80);
        Trial.due("gain at the chimney", g.gain(1, 0, 2, 1), 0);
        Trial.due("gain by arm 6", g.gain(0, 0, 1, 1), -7 * 76);
        g.toss(0, 1, 0, 2, 0);
        Trial.due("one for another", g.gain(1, 0, 0, 2), (5 - 7) * 80);
        Trial.due("a stick for a shoe", g.gain(1, 2, 0, 2), (5 - 2) * 80);
        Trial.due("by arm 0", g.gain(2, 2, 0, 2), -2 * (10 + 10 + 10));
        Trial.dueToThrow("gain, not in hand", () -> g.gain(0, 1, 0, 0));
        Trial.dueToThrow("gain, no such thing", () -> g.gain(0, -1, 0, 0));
        Trial.dueToThrow("gain, nobody such", () -> g.gain(-1, 0, 0, 0));
        Trial.dueToThrow("gain, no such cell", () -> g.gain(0, 0, -1, 0));
        Trial.dueToThrow("gain, no such row", () -> g.gain(0, 0, 0, Integer.MAX_VALUE));
    }

    private static void next() {
        GutterNine g = mixed();
        Trial.due("the chimney costs nothing", g.next(0), 0);
        Trial.due("by the second", g.next(1), 1);
        Trial.due("with the first", g.next(2), 0);
        Trial.due("the chimney", g.next(3), 10);
        g.toss(0, 1, 0, 2, 0);
        Trial.due("the shoe", g.next(0), 240);
        Trial.due("by the sure arm", g.next(1), 1);
        Trial.due("with the stick", g.next(2), 2);
        Trial.due("at the shoe", g.next(3), 16);
        Trial.due("nothing is done", g.count(10), 1);
        GutterNine flat = Trial.of("ff ff", "person a arm 10;person b arm 10;thing x ball of a worth 0;"
            + "thing y ball of b worth 0;");
        for (int what = 0; what <= 3; what++) {
            Trial.due("of equal ones the first, " + what, flat.next(what), 0);
        }
        GutterNine shrunk = Trial.of("ffff ffff ffff ffff", "person a arm 5;thing x shoe of a worth 1;");
        Trial.due("all may stay but at the corner", shrunk.next(0), -80 + 25);
        Trial.due("a smaller roof", Trial.roof(shrunk, "roof 2 2;row ff;row ff;"), 0);
        Trial.due("what was beyond is beside it now", shrunk.next(0), -80 + 25);
        Trial.dueToThrow("next(4)", () -> flat.next(4));
        Trial.dueToThrow("next(-1)", () -> flat.next(-1));
        flat.toss(0, 0, 0, 0, 0);
        flat.toss(0, 1, 1, 1, 0);
        Trial.dueToThrow("nothing in hand", () -> flat.next(0));
        Trial.dueToThrow("nobody", () -> new GutterNine().next(0));
    }

    private static void plans() {
        GutterNine g = Trial.of("ff ff", "person a arm 10;thing x shoe of a worth 9;thing y shoe of a worth 2;"
            + "thing z stick of a worth 3;");
        Trial.due("nothing to throw at", g.plan(1), 14 * 80);
        Trial.due("nothing to throw at, twice", g.plan(2), 14 * 6400);
        g.toss(0, 0, 0, 0, 0);
        Trial.due("a stick brings it", g.plan(1), (9 + 2) * 80);
        Trial.due("and then nothing better", g.plan(2), (9 + 2) * 6400);
        g.toss(0, 2, 1, 1, 0);
        Trial.due("one throw of the shoe brings the stick", g.plan(1), 3 * 80);
        Trial.due("two: the stick for the shoe, the great shoe for that", g.plan(2), 9 * 6400);
        Trial.due("plan(0)", g.plan(0), NONE);
        Trial.due("plan(3)", g.plan(3), NONE);
        Trial.due("plan(-1)", g.plan(-1), NONE);
        Trial.due("nothing is done", g.count(10), 2);
        GutterNine dear = Trial.of("ff ff", "person a arm 10;thing x shoe of a worth 1;thing y shoe of a worth 9;");
        dear.toss(0, 0, 0, 1, 0);
        Trial.due("it is left out", dear.plan(1), 9 * 80);
        Trial.due("both are left out", dear.plan(2), 9 * 6400);
        GutterNine half = Trial.of("fff fff fff", "person a arm 5;thing x shoe of a worth 9;thing y shoe of a worth 1;");
        half.toss(0, 0, 1, 2, 0);
        Trial.due("by arm 5: 40 in 80 bring it, 15 fall", half.plan(1), 40 * 9 + 15);
    }

    private static void alone() {
        GutterNine g = Trial.of("fff fff fff", "person a arm 5;person b arm 7;person c arm 7;"
            + "thing x shoe of a worth 1;thing y shoe of a worth 99;thing z stick of a worth 99;");
        Trial.due("it is not on the roof", g.alone(0, 0), NONE);
        g.toss(0, 0, 1, 2, 0);
        Trial.due("the chance, whatever it costs", g.alone(0, 0), 56);
        Trial.due("the first of the best", g.alone(0, 1), 1);
        Trial.due("the first thing", g.alone(0, 2), 1);
        g.undo();
        g.toss(0, 0, 1, 1, 0);
        Trial.due("two steps: the stick alone", g.alone(0, 0), 56);
        Trial.due("with the stick", g.alone(0, 2), 2);
        g.undo();
        g.toss(0, 0, 1, 0, 0);
        Trial.due("no chance", g.alone(0, 0), 0);
        Trial.due("no chance by the first", g.alone(0, 1), 0);
        Trial.due("no chance with the first in hand", g.alone(0, 2), 1);
        Trial.due("alone, what 3", g.alone(0, 3), NONE);
        Trial.due("alone, what -1", g.alone(0, -1), NONE);
        Trial.due("alone, no such thing", g.alone(3, 0), NONE);
        Trial.due("alone, no such thing below", g.alone(-1, 0), NONE);
        g.toss(0, 1, 0, 0, 0);
        g.toss(0, 2, 2, 2, 0);
        Trial.due("nothing in hand", g.alone(0, 0), NONE);
        GutterNine pipe = Trial.of("fp ff", "person a arm 5;thing x shoe of a worth 1;thing y shoe of a worth 99;");
        pipe.toss(0, 0, 1, 0, 0);
        Trial.due("in a pipe is not on the roof", pipe.alone(0, 0), NONE);
    }

    private static void lies() {
        GutterNine g = Trial.of("fff fff ffp", "person a arm 5;person b arm 10;thing x ball of a worth 1;"
            + "thing y shoe of a worth 1;");
        Trial.due("nothing SEEN: all", g.lies(0, 0, 1, 1, 0), 80);
        Trial.due("nothing SEEN: places", g.lies(0, 0, 1, 1, 1), 9);
        Trial.due("nothing SEEN: the least", g.lies(0, 0, 1, 1, 2), 0);
        Trial.due("see(0, -1)", g.see(0, -1), true);
        Trial.due("nothing to the left", g.lies(0, 0, 1, 1, 0), 65);
        Trial.due("the least of those", g.lies(0, 0, 1, 1, 2), 1);
        Trial.due("see(1, -1)", g.see(1, -1), true);
        Trial.due("nothing in the middle either", g.lies(0, 0, 1, 1, 0), 15);
        Trial.due("two cells and the pipe", g.lies(0, 0, 1, 1, 1), 3);
        Trial.due("see(2, -1)", g.see(2, -1), true);
        Trial.due("what is in the pipe is not seen", g.lies(0, 0, 1, 1, 0), 5);
        Trial.due("it must be in the pipe", g.lies(0, 0, 1, 1, 2), 66);
        Trial.due("by a sure arm it can't be", g.lies(1, 0, 1, 1, 0), NONE);
        Trial.due("no places", g.lies(1, 0, 1, 1, 1), NONE);
        Trial.due("no least", g.lies(1, 0, 1, 1, 2), NONE);
        Trial.due("see(1, 0)", g.see(1, 0), true);
        Trial.due("a ball in the middle", g.lies(0, 0, 1, 1, 0), 50);
        Trial.due("three places", g.lies(0, 0, 1, 1, 1), 3);
        Trial.due("a shoe is none", g.lies(0, 1, 1, 1, 0), NONE);
        Trial.due("count(11)", g.count(11), 3);
        Trial.due("see(1, -2)", g.see(1, -2), true);
        Trial.due("count(11)", g.count(11), 2);
        Trial.due("see(1, -2) again", g.see(1, -2), true);
        Trial.due("see(1, -3)", g.see(1, -3), false);
        Trial.due("see(1, 4)", g.see(1, 4), false);
        Trial.due("see(3, 0)", g.see(3, 0), false);
        Trial.due("see(-1, 0)", g.see(-1, 0), false);
        Trial.due("count(11)", g.count(11), 2);
        Trial.due("lies, what 3", g.lies(0, 0, 1, 1, 3), NONE);
        Trial.due("lies, what -1", g.lies(0, 0, 1, 1, -1), NONE);
        Trial.due("lies, nobody such", g.lies(2, 0, 1, 1, 0), NONE);
        Trial.due("lies, no such thing", g.lies(0, 2, 1, 1, 0), NONE);
        Trial.due("lies, no such cell", g.lies(0, 0, 1, 3, 0), NONE);
        g.toss(1, 0, 0, 0, 0);
        Trial.due("lies, not in hand", g.lies(0, 0, 1, 1, 0), NONE);
        GutterNine two = Trial.of("ff ff", "person a arm 10;thing x ball of a worth 1;thing y shoe of a worth 1;");
        two.toss(0, 1, 0, 1, 0);
        two.see(0, 1);
        Trial.due("the nearest the street counts", two.lies(0, 0, 0, 0, 0), 80);
        two.see(0, 0);
        Trial.due("not the one behind it", two.lies(0, 0, 0, 0, 0), NONE);
        Trial.due("what is knocked counts, too", two.lies(0, 0, 0, 1, 0), 80);
        GutterNine falls = Trial.of("ff ff", "person a arm 0;thing x ball of a worth 1;");
        falls.see(0, -1);
        falls.see(1, -1);
        Trial.due("all that is off the roof", falls.lies(0, 0, 0, 0, 0), 50);
        Trial.due("in hand or over", falls.lies(0, 0, 0, 0, 1), 2);
        Trial.due("in hand is the least", falls.lies(0, 0, 0, 0, 2), 64);
    }

    /** ODDS, GAIN and the PLAN of one throw once more, by throws that are made and undone. */
    private static void byTosses() {
        GutterNine g = Trial.of("ffdr dlcu mgpg", "person a arm 3;person b arm 8;thing p ball of a worth 11;"
            + "thing q ball of b worth 6;thing r shoe of a worth 4;thing s stick of a worth 3;"
            + "thing t frisbee of b worth 2;");
        g.toss(0, 0, 0, 1, 0);
        g.toss(0, 4, 1, 0, 0);
        for (int person = 0; person < 2; person++) {
            for (int thing = 1; thing < 4; thing++) {
                for (int cell = 0; cell < 12; cell++) {
                    compare(g, person, thing, cell % 4, cell / 4);
                }
            }
        }
        compareNext(g);
        Trial.due("plan(1) by throws", g.plan(1), plan(g, 1));
        Trial.due("plan(2) by throws", g.plan(2), plan(g, 2));
        g.toss(1, 2, 3, 2, 0);
        compareNext(g);
        Trial.due("plan(2) by throws, the shoe on the roof", g.plan(2), plan(g, 2));
    }

    private static void compareNext(GutterNine g) {
        int[] best = null;
        for (int person = 0; person < g.count(2); person++) {
            for (int thing = 0; thing < g.count(3); thing++) {
                for (int cell = 0; cell < 12 && g.thing(thing, 3) == 64; cell++) {
                    int gain = g.gain(person, thing, cell % 4, cell / 4);
                    if (best == null || gain > best[0]) {
                        best = new int[] {gain, person, thing, cell / 4 * 8 + cell % 4};
                    }
                }
            }
        }
        for (int what = 0; what <= 3; what++) {
            Trial.due("next(" + what + ") of all gains", g.next(what), best[what]);
        }
    }

    private static int plan(GutterNine g, int ahead) {
        if (ahead == 0) {
            return inHand(g);
        }
        int best = 80 * plan(g, ahead - 1);
        for (int person = 0; person < g.count(2); person++) {
            for (int pair = 0; pair < 25; pair++) {
                int cell = g.thing(pair % 5, 3);
                if (g.thing(pair / 5, 3) != 64 || cell >= 64) {
                    continue;
                }
                int sum = 0;
                for (int slip = 0; slip <= 8; slip++) {
                    g.toss(person, pair / 5, cell % 8, cell / 8, slip);
                    sum += (slip == 0 ? 8 * g.arm(person) : 10 - g.arm(person)) * plan(g, ahead - 1);
                    g.undo();
                }
                best = Math.max(best, sum);
            }
        }
        return best;
    }

    private static void compare(GutterNine g, int person, int thing, int x, int y) {
        int before = inHand(g);
        int[] odds = new int[5];
        int gain = 0;
        for (int slip = 0; slip <= 8; slip++) {
            int weight = slip == 0 ? 8 * g.arm(person) : 10 - g.arm(person);
            boolean[] was = new boolean[5];
            for (int t = 0; t < 5; t++) {
                was[t] = g.thing(t, 3) == 64;
            }
            int at = g.toss(person, thing, x, y, slip);
            boolean other = false;
            for (int t = 0; t < 5; t++) {
                other |= t != thing && !was[t] && g.thing(t, 3) == 64;
            }
            odds[0] += other ? weight : 0;
            odds[at < 64 ? 2 : at == 64 ? 1 : at == 65 ? 3 : 4] += weight;
            gain += weight * (inHand(g) - before);
            g.undo();
        }
        for (int what = 0; what <= 4; what++) {
            Trial.due("odds of " + person + " " + thing + " " + x + " " + y, g.odds(person, thing, x, y, what), odds[what]);
        }
        Trial.due("gain of " + person + " " + thing + " " + x + " " + y, g.gain(person, thing, x, y), gain);
        Trial.due("next is no less", g.next(0) >= gain, true);
    }

    private static int inHand(GutterNine g) {
        int sum = 0;
        for (int t = 0; t < g.count(3); t++) {
            sum += g.thing(t, 3) == 64 ? g.thing(t, 2) : 0;
        }
        return sum;
    }
}
