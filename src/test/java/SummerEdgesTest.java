/** Section 3 of the document, PITCH to MARKS: each sentence that names an edge has its own test. */
public final class SummerEdgesTest {
    private static final int NONE = GutterNine.NONE;
    private static final int[] FAR = {-1, Integer.MIN_VALUE, Integer.MAX_VALUE};

    public static void main(String[] args) {
        pitchRowsUp();
        pitchToASide();
        pitchOnTheBareRoof();
        pitchLostTimes();
        pitchNet();
        pitchTheFirst();
        pitchRefused();
        paysWhoThrewLast();
        paysByPeopleCut();
        paysHisOwn();
        paysRefused();
        waitingLeastFetches();
        waitingNobodyFetches();
        waitingOwnThatIsOver();
        restsOfAll();
        restsAsDigits();
        restsRefused();
        otherwiseAsItIs();
        otherwiseChanges();
        otherwiseWhatStays();
        otherwiseWithoutThings();
        otherwiseOfWholeRoofs();
        otherwiseRefused();
        drawn();
        drawnSlips();
        tenthDays();
        summerFromNowOn();
        summerAllAsAhead();
        summerRefused();
        marksHold();
        marksNothingUndone();
        marksRefused();
        Trial.end();
    }

    private static int put(GutterNine g, int thing, int x, int y) {
        int at = g.toss(0, thing, x, y, 0);
        Trial.due("put " + thing + " at " + x + ", " + y, at >= 0, true);
        return at;
    }

    private static void pitchRowsUp() {
        Trial.says("PITCH: so many rows up from the street's (1 is the last row)");
        for (int deep = 2; deep <= 8; deep++) {
            StringBuilder rows = new StringBuilder();
            for (int y = 0; y < deep; y++) {
                rows.append(y == 2 % deep ? "cf " : "fc ");
            }
            for (int up = 1; up <= 12; up++) {
                GutterNine g = Trial.of(rows.toString(), "shot right 0 up " + up + " times 1;");
                boolean beyond = up > deep;
                boolean left = deep - up == 2 % deep;
                Trial.due("deep " + deep + ", up " + up, g.pitch(2), beyond || !left ? 1 : 0);
                Trial.due("deep " + deep + ", up " + up, g.pitch(3), beyond || left ? 1 : 0);
            }
        }
    }

    private static void pitchToASide() {
        Trial.says("PITCH: to the CELL so many to its side: beyond the ridge and to a side it falls");
        GutterNine g = Trial.of("fff fff", "shot left 1 up 3 times 1;shot right 1 up 12 times 2;shot left 3 up 1 times 4;"
            + "shot right 8 up 2 times 8;");
        int[] wants = {2, 1 + 2, 1};
        for (int x = 0; x < 3; x++) {
            Trial.due("column " + x, g.pitch(2 + x), wants[x]);
        }
    }

    private static void pitchOnTheBareRoof() {
        Trial.says("PITCH: each shot of a ball (that is no THING) without SLIP, on the roof as it is without THINGS");
        GutterNine g = Trial.of("rpf fff", "person a arm 0;thing x shoe of a worth 1;thing y shoe of a worth 1;"
            + "shot left 0 up 2 times 1;shot left 0 up 1 times 2;");
        for (int round = 0; round < 2; round++) {
            Trial.due("into the pipe, on the flat", g.pitch(2), 3);
            Trial.due("column 1", g.pitch(3), 3);
            Trial.due("nothing is thrown", g.count(10), round * 2);
            g.toss(0, 0, 1, 0, 0);
            g.toss(0, 1, 1, 1, 4);
        }
        GutterNine ball = Trial.of("dff dff", "shot left 0 up 2 times 1;");
        Trial.due("a ball rolls on and on: off", ball.pitch(2), 0);
        GutterNine twice = Trial.of("rp ff", "shot left 0 up 2 times 1;shot left 0 up 2 times 1;");
        Trial.due("each ball by itself: the pipe is free for both", twice.pitch(2), 2);
    }

    private static void pitchLostTimes() {
        Trial.says("PITCH: those that do not come back to hand are lost, times their times");
        GutterNine g = Trial.of("cup fdl", "shot left 0 up 2 times 99;shot left 0 up 1 times 7;");
        int[] wants = {7, 99, 99};
        for (int x = 0; x < 3; x++) {
            Trial.due("column " + x, g.pitch(2 + x), wants[x]);
        }
        StringBuilder six = new StringBuilder();
        for (int i = 0; i < 6; i++) {
            six.append("shot left 0 up 1 times 99;");
        }
        Trial.due("the most", Trial.of("ff ff", six.toString()).pitch(0), 6 * 99);
    }

    private static void pitchNet() {
        Trial.says("PITCH: those higher than net come back");
        for (int net = -1; net <= 12; net++) {
            for (int up = 1; up <= 12; up++) {
                GutterNine g = Trial.of("ff ff ff ff", "shot left 0 up " + up + " times 5;" + (net < 0 ? "" : "net " + net + ";"));
                Trial.due("net " + net + ", up " + up, g.pitch(2), net >= 0 && up > net ? 0 : 5);
            }
        }
    }

    private static void pitchTheFirst() {
        Trial.says("PITCH: The column by which the fewest are lost; of equal ones the first");
        for (int wide = 2; wide <= 8; wide++) {
            for (int best = 0; best < wide; best++) {
                StringBuilder row = new StringBuilder("f".repeat(wide));
                row.setCharAt(best, 'd');
                row.setCharAt(wide - 1, 'd');
                GutterNine g = Trial.of("f".repeat(wide) + " " + row, "shot left 0 up 1 times 4;");
                Trial.due("none is lost", g.pitch(0), 0);
                Trial.due("wide " + wide + ", column " + best, g.pitch(1), best);
            }
            GutterNine all = Trial.of("f".repeat(wide) + " " + "f".repeat(wide), "shot left 0 up 1 times 4;");
            Trial.due("all alike", all.pitch(0), 4);
            Trial.due("the first", all.pitch(1), 0);
            GutterNine none = Trial.of("f".repeat(wide) + " " + "f".repeat(wide), "");
            Trial.due("no shots", none.pitch(0), 0);
            Trial.due("the first", none.pitch(1), 0);
        }
        GutterNine fewest = Trial.of("ffff fgfp", "shot left 0 up 1 times 2;shot left 1 up 1 times 3;");
        Trial.due("the fewest, not none", fewest.pitch(0), 2);
        Trial.due("off to the left", fewest.pitch(1), 0);
    }

    private static void pitchRefused() {
        Trial.says("pitch: 2 + x: lost at column x; NONE: others");
        for (int wide = 2; wide <= 8; wide++) {
            GutterNine g = Trial.of("f".repeat(wide) + " " + "f".repeat(wide), "shot left 0 up 1 times 4;");
            Trial.due("the last column", g.pitch(1 + wide), 4);
            Trial.due("beyond it", g.pitch(2 + wide), NONE);
            Trial.due("far beyond it", g.pitch(10 + wide), NONE);
            for (int far : FAR) {
                Trial.due("pitch(" + far + ")", g.pitch(far), NONE);
            }
        }
    }

    /** a owns u (30) and v (7), b owns w (5), c nothing. */
    private static final String OWNED = "person a arm 10;person b arm 10;person c arm 10;thing u shoe of a worth 30;"
        + "thing v shoe of a worth 7;thing w shoe of b worth 5;thing z shoe of b worth 99;";

    private static GutterNine lost() {
        GutterNine g = Trial.of("fpf fff", OWNED);
        g.toss(1, 0, 1, 0, 0);
        g.toss(1, 1, 0, 0, 2);
        g.toss(0, 2, 0, 1, 0);
        g.toss(2, 3, 0, 0, 1);
        return g;
    }

    private static void paysWhoThrewLast() {
        Trial.says("PAYS of a PERSON by a law: 0: the worth of all that is not in hand and that he threw last");
        GutterNine g = lost();
        int[] wants = {5, 37, 0};
        for (int person = 0; person < 3; person++) {
            Trial.due("PERSON " + person, g.pays(person, 0), wants[person]);
        }
        g.fetch(2);
        Trial.due("what is fetched is in hand", g.pays(1, 0), 30);
        g.toss(2, 1, 2, 1, 0);
        Trial.due("who threw it last", g.pays(2, 0), 7);
        Trial.due("not who threw it ahead of that", g.pays(1, 0), 30);
        GutterNine none = Trial.of("ff ff", OWNED);
        Trial.due("nobody threw anything", none.pays(0, 0), 0);
    }

    private static void paysByPeopleCut() {
        Trial.says("1: the worth of all that is not in hand by how many PEOPLE there are, cut");
        for (int worth = 0; worth <= 9; worth++) {
            StringBuilder yard = new StringBuilder("person a arm 10;thing t shoe of a worth " + worth + ";");
            for (int people = 1; people <= 4; people++) {
                GutterNine g = Trial.of("ff ff", yard.toString());
                Trial.due("in hand", g.pays(0, 1), 0);
                put(g, 0, 0, 0);
                for (int person = 0; person < people; person++) {
                    Trial.due(worth + " by " + people, g.pays(person, 1), worth / people);
                }
                yard.append("person ").append((char) ('a' + people)).append(" arm 1;");
            }
        }
        Trial.due("in a pipe, over, on the roof", lost().pays(2, 1), 42 / 3);
    }

    private static void paysHisOwn() {
        Trial.says("2: of his own that is not");
        GutterNine g = lost();
        int[] wants = {37, 5, 0};
        for (int person = 0; person < 3; person++) {
            Trial.due("PERSON " + person, g.pays(person, 2), wants[person]);
        }
    }

    private static void paysRefused() {
        Trial.says("pays: PAYS by a law (0 to 2); NONE: others");
        GutterNine g = lost();
        String ahead = Trial.all(g);
        for (int law = 0; law <= 2; law++) {
            Trial.due("PERSON 3", g.pays(3, law), NONE);
            Trial.due("nobody", new GutterNine().pays(0, law), NONE);
            for (int far : FAR) {
                Trial.due("PERSON " + far, g.pays(far, law), NONE);
            }
        }
        Trial.due("law 3", g.pays(0, 3), NONE);
        for (int far : FAR) {
            Trial.due("law " + far, g.pays(0, far), NONE);
        }
        Trial.due("nothing came of it", Trial.all(g), ahead);
    }

    /** PEOPLE whose own that is over is worth so much each. */
    private static GutterNine waiters(int... worths) {
        StringBuilder yard = new StringBuilder();
        for (int i = 0; i < worths.length; i++) {
            yard.append("person ").append((char) ('a' + i)).append(" arm 10;");
        }
        for (int i = 0; i < worths.length; i++) {
            yard.append("thing t").append((char) ('a' + i)).append(" shoe of ").append((char) ('a' + i))
                .append(" worth ").append(worths[i]).append(";");
        }
        GutterNine g = Trial.of("ff ff", yard.toString());
        for (int i = 0; i < worths.length; i++) {
            Trial.due("over", g.toss(0, i, 0, 0, 2), 65);
        }
        return g;
    }

    private static boolean isRest(int[] worths, int price, int code) {
        int n = worths.length;
        for (int i = 0; i < n; i++) {
            int now = cost(worths, price, code, i);
            for (int day = 0; day <= 7; day++) {
                int shift = 3 * (n - 1 - i);
                if (cost(worths, price, code & ~(7 << shift) | day << shift, i) < now) {
                    return false;
                }
            }
        }
        return true;
    }

    private static int cost(int[] worths, int price, int code, int person) {
        int least = 7;
        int fetcher = -1;
        for (int i = 0; i < worths.length; i++) {
            int day = code >> 3 * (worths.length - 1 - i) & 7;
            if (day < least) {
                least = day;
                fetcher = i;
            }
        }
        return worths[person] * least + (fetcher == person ? price : 0);
    }

    private static void dueRests(int price, int... worths) {
        GutterNine g = waiters(worths);
        int many = 0;
        for (int code = 0; code < 1 << 3 * worths.length; code++) {
            if (isRest(worths, price, code)) {
                if (many < 12) {
                    Trial.due("price " + price + ", rest " + many, g.rests(price, many), code);
                }
                many++;
            }
        }
        Trial.due("price " + price + ", how many", g.rests(price, NONE), many);
        Trial.due("price " + price + ", the one beyond", g.rests(price, many), NONE);
    }

    private static void waitingLeastFetches() {
        Trial.says("who chooses the least of all (of equal ones the first) fetches then, if it is no 7, and pays the price");
        for (int price : new int[] {0, 1, 6, 7, 8, 34, 35, 36, 999}) {
            dueRests(price, 5);
            dueRests(price, 5, 5);
            dueRests(price, 1, 5);
            dueRests(price, 5, 1);
            dueRests(price, 0, 5, 1);
        }
        GutterNine two = waiters(5, 5);
        Trial.due("the other one on day 1 is no rest: the first would rather wait; on day 2 it is", two.rests(10, 0), 2);
        GutterNine free = waiters(5, 0);
        Trial.due("price 0: the first fetches at once", free.rests(0, 0), 0);
    }

    private static void waitingNobodyFetches() {
        Trial.says("each pays .. for each day till then (7 if nobody fetches)");
        GutterNine g = waiters(5);
        Trial.due("a price of 7 days: all the same", g.rests(35, NONE), 2);
        Trial.due("at once", g.rests(35, 0), 0);
        Trial.due("never", g.rests(35, 1), 7);
        Trial.due("a price above: never", g.rests(36, NONE), 1);
        Trial.due("never", g.rests(36, 0), 7);
        Trial.due("a price below: at once", g.rests(34, NONE), 1);
        Trial.due("at once", g.rests(34, 0), 0);
        GutterNine dear = waiters(99);
        Trial.due("99 for 7 days", dear.rests(693, NONE), 2);
        Trial.due("one more", dear.rests(694, 0), 7);
    }

    private static void waitingOwnThatIsOver() {
        Trial.says("each pays the worth of his own that is over");
        GutterNine g = Trial.of("fpf fff", "person a arm 10;person b arm 10;thing x shoe of a worth 3;thing y shoe of a worth 4;"
            + "thing z shoe of a worth 50;thing w shoe of a worth 60;");
        g.toss(1, 0, 0, 0, 2);
        g.toss(1, 1, 0, 0, 2);
        put(g, 2, 1, 0);
        put(g, 3, 0, 0);
        Trial.due("7 a day: 49 is all the same to him", g.rests(49, NONE) > g.rests(50, NONE), true);
        Trial.due("nobody fetches for 50", g.rests(50, NONE), 1);
        Trial.due("never", g.rests(50, 0), 63);
        g.fetch(0);
        Trial.due("nothing is over: nobody fetches for 1", g.rests(1, NONE), 1);
        Trial.due("for nothing any day", g.rests(0, NONE), 64);
    }

    private static void restsOfAll() {
        Trial.says("RESTS: choices of all by which nobody would pay less by another one of his own alone");
        for (int price = 0; price <= 40; price += 4) {
            dueRests(price, 2, 3);
            dueRests(price, 4, 0, 2);
        }
        dueRests(10, 1, 2, 3, 4);
        dueRests(999, 99, 99, 99, 99);
        dueRests(500, 99, 0, 50, 99);
    }

    private static void restsAsDigits() {
        Trial.says("rests: i: the i-th, as digits to the base of 8, PERSON 0's the highest, the least first");
        int all = 1;
        for (int people = 1; people <= 4; people++) {
            all *= 8;
            GutterNine g = waiters(new int[people]);
            Trial.due("all are rests", g.rests(0, NONE), all);
            for (int i : new int[] {0, 1, 7, all / 8, all - 2, all - 1}) {
                Trial.due("the " + i + "-th of " + people, g.rests(0, i), i);
            }
            Trial.due("beyond the last", g.rests(0, all), NONE);
            Trial.due("for a price nobody: all 7", g.rests(1, 0), all - 1);
        }
        GutterNine second = waiters(0, 9);
        Trial.due("PERSON 1 alone fetches at once", second.rests(9, 0) % 8, 0);
        Trial.due("PERSON 0 later", second.rests(9, 0) / 8, 1);
    }

    private static void restsRefused() {
        Trial.says("rests: at a price (0 to 999), what NONE: how many; NONE: others, nobody");
        GutterNine g = waiters(5, 4);
        for (int what : new int[] {NONE, 0, 1}) {
            for (int price : new int[] {-1, 1000, 1001, Integer.MIN_VALUE, Integer.MAX_VALUE}) {
                Trial.due("price " + price, g.rests(price, what), NONE);
            }
            Trial.due("nobody", new GutterNine().rests(0, what), NONE);
        }
        Trial.due("price 999", g.rests(999, NONE), 1);
        Trial.due("price 999", g.rests(999, 0), 63);
        Trial.due("price 0", g.rests(0, NONE) > 0, true);
        for (int what : new int[] {-2, -3, 64, 4096, Integer.MIN_VALUE, Integer.MAX_VALUE}) {
            Trial.due("what " + what, g.rests(0, what), NONE);
        }
    }

    private static void dueOtherwise(GutterNine g, int x, int y, int place, int many, int first) {
        String call = "otherwise(" + x + ", " + y + ", " + place + ", ";
        Trial.due(call + "0)", g.otherwise(x, y, place, 0), many);
        Trial.due(call + "1)", g.otherwise(x, y, place, 1), first);
    }

    private static void otherwiseAsItIs() {
        Trial.says("OTHERWISE: 0 changes if it is so as it is");
        GutterNine g = Trial.of("dull mfrp ufdr", "");
        int[][] asItIs = {{0, 0, 8}, {1, 0, 65}, {2, 0, 65}, {0, 1, 8}, {2, 1, 66}, {0, 2, 8}, {2, 2, 64}, {3, 2, 64}};
        for (int[] at : asItIs) {
            Trial.due("rolls", g.rolls(at[0], at[1]), at[2]);
            dueOtherwise(g, at[0], at[1], at[2], 0, NONE);
        }
    }

    private static void otherwiseChanges() {
        Trial.says("how many changes of one tile to another one of f, d, u, l, r, m would tell it; the first, as CELL * 8 + tile");
        GutterNine g = Trial.of("ff ff", "");
        dueOtherwise(g, 0, 0, 64, 1, 3);
        dueOtherwise(g, 0, 0, 65, 1, 2);
        dueOtherwise(g, 0, 0, 8, 1, 1);
        dueOtherwise(g, 0, 0, 1, 1, 4);
        dueOtherwise(g, 1, 1, 64, 2, 9 * 8 + 1);
        dueOtherwise(g, 1, 1, 1, 1, 9 * 8 + 2);
        dueOtherwise(g, 1, 1, 8, 1, 9 * 8 + 3);
        dueOtherwise(g, 0, 0, 9, NONE, NONE);
        GutterNine stop = Trial.of("rl ff", "");
        dueOtherwise(stop, 0, 0, 0, 2, 0);
        dueOtherwise(stop, 0, 0, 8, 1, 1);
        dueOtherwise(stop, 0, 0, 9, 1, 8 + 1);
        dueOtherwise(stop, 0, 0, 64, 2, 3);
        dueOtherwise(stop, 0, 0, 65, 2, 2);
        GutterNine moss = Trial.of("dm ff", "");
        dueOtherwise(moss, 0, 0, 0, 2, 0);
        dueOtherwise(moss, 0, 0, 1, 1, 4);
        GutterNine pipe = Trial.of("fp ff", "");
        dueOtherwise(pipe, 0, 0, 66, 1, 4);
        dueOtherwise(pipe, 1, 1, 66, 1, 9 * 8 + 2);
    }

    private static void otherwiseWhatStays() {
        Trial.says("(chimneys, pipes, gutters stay)");
        GutterNine g = Trial.of("rcg dpd ggg", "");
        dueOtherwise(g, 0, 0, 1, NONE, NONE);
        dueOtherwise(g, 2, 0, 2, 0, NONE);
        for (int place : new int[] {0, 1, 8, 9, 10, 16, 17, 18, 64, 65, 66}) {
            dueOtherwise(g, 2, 0, place, NONE, NONE);
        }
        dueOtherwise(g, 0, 1, 64, 1, 8 * 8 + 3);
        dueOtherwise(g, 0, 1, 66, 1, 8 * 8 + 4);
        dueOtherwise(g, 0, 1, 9, NONE, NONE);
        dueOtherwise(g, 2, 1, 64, 1, 10 * 8 + 4);
        for (int cell = 0; cell < 9; cell++) {
            Trial.due("the tiles are as told", g.tile(cell % 3, cell / 3, 0), "486171666".charAt(cell) - '0');
        }
    }

    private static void otherwiseWithoutThings() {
        Trial.says("a ball (no THING) was put on a CELL of the roof without THINGS");
        GutterNine g = Trial.of("rff rpf", "person a arm 10;thing x shoe of a worth 1;thing y shoe of a worth 1;"
            + "thing z shoe of a worth 1;");
        for (int round = 0; round < 2; round++) {
            dueOtherwise(g, 0, 0, 1, 0, NONE);
            dueOtherwise(g, 0, 0, 0, 2, 0);
            dueOtherwise(g, 0, 1, 66, 0, NONE);
            dueOtherwise(g, 0, 1, 8, 2, 8 * 8);
            if (round == 0) {
                put(g, 0, 1, 0);
                put(g, 1, 0, 0);
                put(g, 2, 1, 1);
            }
        }
        Trial.due("THINGS are where they were", g.count(5) + g.count(7), 3);
    }

    /** Each change of each tile tried by telling the roof so. */
    private static void otherwiseOfWholeRoofs() {
        Trial.says("OTHERWISE: all changes of one tile, tried one by one");
        String[] roofs = {"dlmr ggpg uffc", "rrd ful ddd", "ff ff", "rl ud", "ddddd rrrrp uuuuc lllgf"};
        for (String rows : roofs) {
            GutterNine g = Trial.of(rows, "");
            int wide = g.count(0);
            String plain = rows.replace(" ", "");
            int[][] rest = new int[plain.length() * 6][];
            GutterNine other = new GutterNine();
            for (int i = 0; i < plain.length(); i++) {
                for (int tile = 0; tile < 6 && "gpc".indexOf(plain.charAt(i)) < 0; tile++) {
                    StringBuilder changed = new StringBuilder(plain);
                    changed.setCharAt(i, "fdulrm".charAt(tile));
                    rest[i * 6 + tile] = allRolls(other, changed.toString(), wide);
                }
            }
            compare(g, plain, wide, rest);
        }
    }

    private static int[] allRolls(GutterNine g, String plain, int wide) {
        StringBuilder rows = new StringBuilder();
        for (int i = 0; i < plain.length(); i++) {
            rows.append(plain.charAt(i)).append(i % wide == wide - 1 ? " " : "");
        }
        Trial.due("roof", Trial.roof(g, Trial.roofText(rows.toString())), 0);
        int[] rolls = new int[plain.length()];
        for (int i = 0; i < rolls.length; i++) {
            rolls[i] = g.rolls(i % wide, i / wide);
        }
        return rolls;
    }

    private static void compare(GutterNine g, String plain, int wide, int[][] rest) {
        for (int from = 0; from < plain.length(); from++) {
            boolean holds = "pc".indexOf(plain.charAt(from)) < 0;
            int asItIs = g.rolls(from % wide, from / wide);
            for (int place = 0; place <= 67; place++) {
                int many = 0;
                int first = NONE;
                for (int i = 0; i < rest.length; i++) {
                    if (holds && place != asItIs && rest[i] != null && rest[i][from] == place) {
                        many++;
                        int cell = i / 6 / wide * 8 + i / 6 % wide;
                        first = first == NONE ? cell * 8 + i % 6 : first;
                    }
                }
                boolean so = holds && place == asItIs;
                dueOtherwise(g, from % wide, from / wide, place, so ? 0 : many == 0 ? NONE : many, first);
            }
        }
    }

    private static void otherwiseRefused() {
        Trial.says("otherwise: NONE: others, it can't be so; on a CELL (no chimney, no pipe)");
        GutterNine g = Trial.of("fpc fff", "");
        for (int what = 0; what < 2; what++) {
            Trial.due("a pipe", g.otherwise(1, 0, 66, what), NONE);
            Trial.due("a pipe", g.otherwise(1, 0, 1, what), NONE);
            Trial.due("a chimney", g.otherwise(2, 0, 64, what), NONE);
            Trial.due("a chimney", g.otherwise(2, 0, 2, what), NONE);
            Trial.due("column 3", g.otherwise(3, 0, 64, what), NONE);
            Trial.due("row 2", g.otherwise(0, 2, 64, what), NONE);
            for (int far : FAR) {
                Trial.due("column " + far, g.otherwise(far, 0, 64, what), NONE);
                Trial.due("row " + far, g.otherwise(0, far, 64, what), NONE);
                Trial.due("place " + far, g.otherwise(0, 0, far, what), NONE);
            }
            for (int place : new int[] {1, 2, 3, 16, 63, 67, 128, 129, 130, 192}) {
                Trial.due("place " + place, g.otherwise(0, 1, place, what), NONE);
            }
        }
        for (int place : new int[] {0, 8, 64, 65, 66}) {
            Trial.due("by a change, or as it is: " + place, g.otherwise(0, 0, place, 0) >= 0, true);
            Trial.due("what 2", g.otherwise(0, 0, place, 2), NONE);
            for (int far : FAR) {
                Trial.due("what " + far, g.otherwise(0, 0, place, far), NONE);
            }
        }
    }

    private static long drawing;

    private static int draw(int below) {
        drawing = (drawing * 1103515245L + 12345L) % 2147483648L;
        return (int) (drawing / 65536 % below);
    }

    private static int slipOf(int arm, int drawn) {
        int slip = 0;
        for (int passed = 8 * arm; passed <= drawn; passed += 10 - arm) {
            slip++;
        }
        return slip;
    }

    private static void live(GutterNine g, int seed, int days, boolean gales) {
        drawing = seed;
        for (int day = 1; day <= days; day++) {
            int thing = draw(g.count(3));
            if (g.thing(thing, 3) == 64) {
                int cell = draw(g.count(0) * g.count(1));
                int owner = g.thing(thing, 1);
                int slip = slipOf(g.arm(owner), draw(80));
                g.toss(owner, thing, cell % g.count(0), cell / g.count(0), slip);
            }
            if (day % 10 == 0 && gales) {
                g.gale(draw(4));
            }
            g.days(1);
        }
    }

    private static void dueSummer(GutterNine g, int seed, int days) {
        int[] got = new int[4];
        for (int what = 0; what < 4; what++) {
            got[what] = g.summer(seed, days, what);
        }
        int paid = g.count(9);
        live(g, seed, days, true);
        int[] want = {g.count(4), g.count(6), g.count(5) + g.count(7), g.count(9) - paid};
        for (int what = 0; what < 4; what++) {
            Trial.due("summer(" + seed + ", " + days + ", " + what + ")", got[what], want[what]);
        }
    }

    private static final String KINDS = "person a arm 4;person b arm 10;person c arm 0;thing s ball of a worth 9;"
        + "thing t shoe of b worth 2;thing u frisbee of c worth 7;thing v stick of a worth 1;thing w ball of c worth 5;"
        + "thing x ball of b worth 3;temper value + days;damage days;first 2;";

    private static void drawn() {
        Trial.says("A DRAW below m: g becomes (g * 1103515245 + 12345) modulo 2147483648; it is g / 65536, cut, modulo m");
        for (int seed : new int[] {0, 1, 2, 77, 4095, 4096, 9998, 9999}) {
            for (int days : new int[] {1, 2, 7, 59, 60}) {
                dueSummer(Trial.of("ufdrl dlmrc ggpgg", KINDS), seed, days);
            }
        }
        GutterNine one = Trial.of("ff ff", "person a arm 10;thing x shoe of a worth 1;");
        // Seed 0: 12345 / 65536 is THING 0; then 21468 below 4 is CELL 0; it lies there.
        Trial.due("the first DAY of SEED 0", one.summer(0, 1, 2), 1);
    }

    private static void drawnSlips() {
        Trial.says("one below 80: .. the SLIP as that falls into the weights (none first, then 1 to 8)");
        for (int arm = 0; arm <= 10; arm++) {
            String yard = "person a arm " + arm + ";thing s shoe of a worth 9;thing t ball of a worth 2;";
            for (int seed = arm; seed <= 9999; seed += 397) {
                dueSummer(Trial.of("ppp fdr gfc", yard), seed, 5);
            }
        }
    }

    private static void tenthDays() {
        Trial.says("on each tenth of these a DRAW below 4 is a GALE's way; then the DAY passes");
        String yard = "person a arm 10;thing s ball of a worth 9;thing t frisbee of a worth 2;temper 0;damage 0;";
        int unlike = 0;
        for (int seed = 0; seed < 200; seed++) {
            for (int days : new int[] {9, 10, 11, 20, 30}) {
                GutterNine g = Trial.of("fff fff fff", yard);
                dueSummer(g, seed, days);
                GutterNine still = Trial.of("fff fff fff", yard);
                live(still, seed, days, false);
                boolean alike = still.count(4) == g.count(4) && still.count(6) == g.count(6);
                Trial.due("nine DAYS have no GALE", days >= 10 || alike, true);
                unlike += alike ? 0 : 1;
            }
        }
        Trial.due("a GALE matters at times", unlike > 0, true);
        GutterNine later = Trial.of("fff fff fff", yard);
        later.days(5);
        dueSummer(later, 3, 10);
    }

    private static void summerFromNowOn() {
        Trial.says("SUMMER .. from now on");
        for (int seed = 0; seed <= 9999; seed += 1111) {
            GutterNine g = Trial.of("ufdrl dlmrc ggpgg", KINDS);
            put(g, 0, 2, 1);
            put(g, 1, 2, 2);
            g.toss(1, 2, 0, 0, 2);
            g.days(3);
            dueSummer(g, seed, 1 + seed % 60);
        }
    }

    private static void summerAllAsAhead() {
        Trial.says("(all is as ahead then)");
        GutterNine g = Trial.of("ufdrl dlmrc ggpgg", KINDS);
        put(g, 0, 2, 1);
        put(g, 1, 2, 2);
        g.toss(1, 2, 0, 0, 2);
        g.days(3);
        g.see(0, -1);
        g.mark(2, false);
        Trial.feed(g, "net");
        String ahead = Trial.all(g);
        for (int seed = 0; seed < 40; seed++) {
            int answer = g.summer(seed, 60, seed % 4);
            Trial.due("all is as ahead", Trial.all(g), ahead);
            Trial.due("the same answer again", g.summer(seed, 60, seed % 4), answer);
        }
        Trial.due("the last step is undone", g.undo(), true);
        Trial.due("day 0", g.count(8), 0);
        Trial.due("the MARK is there", g.mark(2, true), true);
        Trial.due("day 3", g.count(8), 3);
    }

    private static void summerRefused() {
        Trial.says("summer: by a SEED (0 to 9999), of so many DAYS (1 to 60); NONE: others, nothing");
        GutterNine g = Trial.of("ff ff", "person a arm 10;thing x shoe of a worth 1;");
        for (int what = 0; what < 4; what++) {
            for (int seed : new int[] {-1, 10000, 10001, Integer.MIN_VALUE, Integer.MAX_VALUE}) {
                Trial.due("SEED " + seed, g.summer(seed, 5, what), NONE);
            }
            for (int days : new int[] {0, -1, 61, 62, Integer.MIN_VALUE, Integer.MAX_VALUE}) {
                Trial.due("DAYS " + days, g.summer(5, days, what), NONE);
            }
            Trial.due("SEED 0, 1 DAY", g.summer(0, 1, what) >= 0, true);
            Trial.due("SEED 9999, 60 DAYS", g.summer(9999, 60, what) >= 0, true);
            Trial.due("nobody", new GutterNine().summer(0, 1, what), NONE);
            Trial.due("nothing", Trial.of("ff ff", "person a arm 1;").summer(0, 1, what), NONE);
        }
        Trial.due("what 4", g.summer(0, 1, 4), NONE);
        for (int far : FAR) {
            Trial.due("what " + far, g.summer(0, 1, far), NONE);
        }
        Trial.due("nothing came of it", g.count(4), 1);
    }

    private static void marksHold() {
        Trial.says("MARKS 0 to 3 hold where THINGS are, who threw them, the day, what is paid, what is SEEN");
        GutterNine g = Trial.of("fpf fff", "person a arm 10;person b arm 10;thing x ball of a worth 9;thing y shoe of a worth 2;");
        String[] held = new String[4];
        int[] lies = new int[4];
        for (int mark = 0; mark < 4; mark++) {
            g.toss(mark % 2, 0, mark % 2, 0, mark == 2 ? 2 : 0);
            g.days(mark + 1);
            g.see(mark % 3, mark - 1);
            Trial.due("laid", g.mark(mark, false), true);
            held[mark] = held(g);
            lies[mark] = g.lies(0, 1, 2, 1, 0);
            g.undo();
            g.undo();
        }
        for (int mark : new int[] {3, 0, 2, 1, 1, 3}) {
            g.see(0, -2);
            g.see(2, 3);
            g.days(1);
            Trial.due("gone back to " + mark, g.mark(mark, true), true);
            Trial.due("as it was", held(g), held[mark]);
            Trial.due("what is SEEN", g.lies(0, 1, 2, 1, 0), lies[mark]);
        }
        g.days(4);
        Trial.due("laid once more", g.mark(0, false), true);
        String last = held(g);
        g.mark(2, true);
        g.mark(0, true);
        Trial.due("the last one holds", held(g), last);
    }

    /** All that a MARK holds, but what is SEEN. */
    private static String held(GutterNine g) {
        StringBuilder told = new StringBuilder();
        for (int what = 4; what <= 9; what++) {
            told.append(g.count(what)).append(' ');
        }
        for (int i = 0; i < 2; i++) {
            told.append(g.thing(i, 3)).append(' ').append(g.thing(i, 4)).append(' ');
        }
        for (int cell = 0; cell < 6; cell++) {
            told.append(g.tile(cell % 3, cell / 3, 1)).append(' ');
        }
        return told.append(g.count(11)).toString();
    }

    private static void marksNothingUndone() {
        Trial.says("(nothing can be undone when one is gone back to)");
        GutterNine g = Trial.of("ff ff", "person a arm 10;thing x ball of a worth 9;");
        g.days(1);
        Trial.due("laid", g.mark(0, false), true);
        Trial.due("by laying nothing is changed", g.count(10), 1);
        g.days(1);
        Trial.due("refused: what can be undone stays", g.mark(1, true), false);
        Trial.due("two", g.count(10), 2);
        Trial.due("gone back", g.mark(0, true), true);
        Trial.due("none", g.count(10), 0);
        Trial.due("undo()", g.undo(), false);
        Trial.due("day 1", g.count(8), 1);
        g.days(1);
        Trial.due("a step behind it", g.undo(), true);
        Trial.due("day 1", g.count(8), 1);
        Trial.due("no more", g.undo(), false);
        Trial.due("the MARK stays", g.mark(0, true), true);
        for (int i = 0; i < 20; i++) {
            g.days(1);
        }
        Trial.due("however many steps", g.mark(0, true), true);
        Trial.due("day 1", g.count(8), 1);
    }

    private static void marksRefused() {
        Trial.says("mark: false: none such, nothing is on it (back)");
        GutterNine g = Trial.of("ff ff", "person a arm 10;thing x ball of a worth 9;");
        g.days(1);
        String ahead = Trial.all(g);
        for (int mark : new int[] {-1, 4, 5, 32, Integer.MIN_VALUE, Integer.MAX_VALUE}) {
            Trial.due("mark(" + mark + ", false)", g.mark(mark, false), false);
            Trial.due("mark(" + mark + ", true)", g.mark(mark, true), false);
        }
        for (int mark = 0; mark < 4; mark++) {
            Trial.due("nothing is on it: " + mark, g.mark(mark, true), false);
        }
        Trial.due("nothing came of it", Trial.all(g), ahead);
        for (int mark = 3; mark >= 0; mark--) {
            Trial.due("laid: " + mark, g.mark(mark, false), true);
            for (int none : new int[] {-32, -31, -30, -29, -4, -1, 4, 32, 33, 34, 35, 64, 67}) {
                Trial.due("mark(" + none + ", true)", g.mark(none, true), false);
            }
            for (int other = 0; other < mark; other++) {
                Trial.due("nothing is on another one: " + other, g.mark(other, true), false);
            }
        }
    }
}
