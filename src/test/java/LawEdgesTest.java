/** Section 1 of the document, the E of the laws and what a ROOF or YARD begins anew: a test for each sentence's edges. */
public final class LawEdgesTest {
    private static final int NONE = GutterNine.NONE;
    private static final String YARD = "person a arm 10;thing b ball of a worth 7;thing s shoe of a worth 5;"
        + "thing o shoe of a worth 50;thing h stick of a worth 11;";

    public static void main(String[] args) {
        andOrFromTheLeft();
        oneComparison();
        sumsFromTheLeft();
        productsAheadOfSums();
        notOfAPart();
        brackets();
        numbers();
        facts();
        lostOnRoofAndInPipes();
        oneOrZero();
        intsWrap();
        belowZeroAndAbove99();
        withoutTemper();
        withoutDamage();
        noPartWithinFive();
        whatIsBesideDoesNotCount();
        whatCannotStandInALaw();
        aLongLaw();
        aRoofBeginsAnew();
        aYardBeginsAnew();
        aFaultLeavesAll();
        aFaultIsForgotten();
        yardsInTurn();
        atFirst();
        Trial.end();
    }

    /** A ball (7) on the roof, a shoe (5) in a pipe, a shoe (50) over, a stick (11) in hand; it is day 0. */
    private static GutterNine of(String laws) {
        GutterNine g = Trial.of("ufp ffc", YARD + laws);
        Trial.due("the ball is on the roof", g.toss(0, 0, 1, 1, 0), 9);
        Trial.due("the shoe is in the pipe", g.toss(0, 1, 2, 0, 0), 66);
        Trial.due("the other one is over", g.toss(0, 2, 1, 0, 2), 65);
        return g;
    }

    /** What a law comes to on a Saturday that is day 0, as temper, and on the day ahead of it, as damage. */
    private static void law(String law, int want) {
        GutterNine g = of("first 5;damage 0;temper " + law + ";");
        g.days(1);
        Trial.due("temper " + law, g.count(9), want);
        GutterNine h = of("damage " + law + ";temper 0;");
        h.days(1);
        Trial.due("damage " + law, h.count(9), want);
    }

    private static void andOrFromTheLeft() {
        Trial.says("E: TEST { and TEST or or TEST }, from the left");
        law("1 or 0 and 0", 0);
        law("0 and 0 or 1", 1);
        law("1 or 1 and 0 or 0", 0);
        law("0 and 1 or 1 and 1", 1);
        law("1 or (0 and 0)", 1);
    }

    private static void oneComparison() {
        Trial.says("TEST: SUM, or SUM < SUM, or SUM = SUM");
        law("1 < 2", 1);
        law("2 < 2", 0);
        law("3 < 2", 0);
        law("2 = 2", 1);
        law("2 = 3", 0);
        law("1 + 1 = 4 - 2", 1);
        law("1 < 2 and 3 < 4 or 5 = 6", 1);
        law("(1 < 2) = (3 = 3)", 1);
        Trial.dueYard("temper 1 < 2 ^< 3;", 1);
        Trial.dueYard("temper 1 < 2 ^= 3;", 1);
        Trial.dueYard("temper 1 = 2 ^< 3;", 1);
        Trial.dueYard("temper 1 = 2 ^= 3;", 1);
        Trial.dueYard("temper 1 < 2 * 3 + 4 ^< 3;", 1);
        Trial.dueYard("temper (1 < 2 ^< 3);", 1);
        Trial.dueYard("temper 1 < 2 and 1 < 2 ^< 3;", 1);
        Trial.dueYard("temper 1 < 2 and 1 < 2 or 1 = 2;");
    }

    private static void sumsFromTheLeft() {
        Trial.says("SUM: PRODUCT { + or - PRODUCT }");
        law("20 - 3 - 4", 13);
        law("20 - 3 + 4", 21);
        law("20 + 3 - 4", 19);
        law("20 - (3 - 4)", 21);
        law("1 - 1", 0);
    }

    private static void productsAheadOfSums() {
        Trial.says("PRODUCT: PART { * PART }");
        law("2 + 3 * 4", 14);
        law("2 * 3 + 4", 10);
        law("30 - 2 * 3 * 4", 6);
        law("2 * 3 * 4", 24);
        law("5 * 0", 0);
        law("2 * 3 < 7 * 1", 1);
    }

    private static void notOfAPart() {
        Trial.says("PART: .. not PART");
        law("not 0 + 5", 6);
        law("not 3 * 5", 0);
        law("not 0 * 5", 5);
        law("not 0 < 2", 1);
        law("not 1 < 1", 1);
        law("5 + not 0", 6);
        law("not (0 + 5)", 0);
        law("not not 5", 1);
        law("not not not 5", 0);
        law("not not not not 5", 1);
        law("not (not 0 + 1) + 3", 3);
        law("not 0 and not 0", 1);
    }

    private static void brackets() {
        Trial.says("PART: .. ( E )");
        law("(2 + 3) * 4", 20);
        law("((((7))))", 7);
        law("(1 or 0) + (1 and 1) + (1 < 2)", 3);
        law("2 * (3 - (2 - 1)) * 4", 16);
        law("(lost) * (value)", 24);
    }

    private static void numbers() {
        Trial.says("PART: a NUMBER");
        law("0", 0);
        law("0000", 0);
        law("0042", 42);
        law("9999 - 9990", 9);
        law("9999 = 9999", 1);
    }

    private static void facts() {
        Trial.says("Facts: lost .., value (what these are worth), days (how many passed)");
        law("lost", 2);
        law("value", 12);
        law("days", 0);
        GutterNine g = of("first 2;temper days * 10 + lost;damage days + 1;");
        Trial.due("days(3)", g.days(3), 3);
        Trial.due("damage of three days: 1, 2, 3", g.count(9), 6);
        g.days(1);
        Trial.due("Saturday is day 3: 4 of damage, 32 of temper", g.count(9), 6 + 4 + 32);
    }

    private static void lostOnRoofAndInPipes() {
        Trial.says("lost (THINGS on the roof and in pipes)");
        GutterNine g = Trial.of("ffp ffc", YARD + "first 5;temper 10 * lost + (value = 0);damage 0;");
        g.days(1);
        Trial.due("nothing is lost: nothing is paid", g.count(9), 0);
        g.toss(0, 2, 0, 0, 2);
        g.days(7);
        Trial.due("what is over is not lost", g.count(9), 0);
        g.toss(0, 1, 2, 0, 0);
        g.days(7);
        Trial.due("what is in a pipe is", g.count(9), 10);
        g.toss(0, 1, 0, 0, 0);
        g.days(7);
        Trial.due("what is on the roof is", g.count(9), 20);
        GutterNine none = Trial.of("ff ff", "person a arm 10;thing b ball of a worth 0;first 5;temper lost + value;");
        none.toss(0, 0, 0, 0, 0);
        none.days(1);
        Trial.due("it is worth nothing", none.count(9), 1);
    }

    private static void oneOrZero() {
        Trial.says("Of not, and, or, < and = comes 1 or 0; what is not 0 is so");
        law("5 and 3", 1);
        law("5 and 0", 0);
        law("0 and 5", 0);
        law("0 or 3", 1);
        law("3 or 0", 1);
        law("4 or 2", 1);
        law("0 or 0", 0);
        law("(0 - 1) and 1", 1);
        law("0 or (0 - 1)", 1);
        law("not 5", 0);
        law("not 1", 0);
        law("not 0", 1);
        law("not (0 - 1)", 0);
        law("(2 < 3) + (3 = 3) + (3 < 2) + (2 = 3)", 2);
    }

    private static void intsWrap() {
        Trial.says("ints wrap");
        law("256 * 256 * 256 * 256 + 7", 7);
        law("256 * 256 * 256 * 128 < 0", 1);
        law("256 * 256 * 256 * 127 < 0", 0);
        law("256 * 256 * 256 * 128 - 1 < 0", 0);
        law("256 * 256 * 256 * 128 - 1 + 1 < 0", 1);
        law("0 - 256 * 256 * 256 * 128 < 0", 1);
        law("256 * 256 * 256 * 128 + 256 * 256 * 256 * 128 + 3", 3);
        law("256 * 256 * 256 * 128 = 0 - 256 * 256 * 256 * 128", 1);
    }

    private static void belowZeroAndAbove99() {
        Trial.says("the E of damage (0 if it is below, 99 above) is paid .. E of temper (likewise)");
        law("0 - 1", 0);
        law("0 - 9999", 0);
        law("1", 1);
        law("98", 98);
        law("99", 99);
        law("100", 99);
        law("9999", 99);
        law("256 * 256 * 256 * 128", 0);
        law("256 * 256 * 256 * 128 - 1", 99);
    }

    private static void withoutTemper() {
        Trial.says("Without temper: lost");
        GutterNine g = of("first 5;damage 0;");
        g.days(1);
        Trial.due("two were lost", g.count(9), 2);
        GutterNine again = of("first 5;damage 0;temper 40;");
        Trial.due("another yard", Trial.yard(again, YARD + "first 5;damage 0;"), 0);
        again.toss(0, 0, 1, 1, 0);
        again.days(1);
        Trial.due("the law of the yard ahead is gone", again.count(9), 1);
    }

    private static void withoutDamage() {
        Trial.says("without damage: 1");
        GutterNine g = of("temper 0;");
        g.days(3);
        Trial.due("1 each day", g.count(9), 3);
        GutterNine again = of("damage 40;temper 0;");
        Trial.due("another yard", Trial.yard(again, YARD + "temper 0;"), 0);
        again.toss(0, 1, 2, 0, 0);
        again.days(1);
        Trial.due("the law of the yard ahead is gone", again.count(9), 1);
    }

    private static void noPartWithinFive() {
        Trial.says("no PART lies within 5 of not and ( ) (5: not, or a PART, within 5 others)");
        String[] four = {"((((", "not not not not ", "not(not(", "(not(not ", "((not not "};
        String[] closed = {"))))", "", "))", "))", "))"};
        String[] parts = {"lost", "value", "days", "7", "0"};
        for (int i = 0; i < four.length; i++) {
            for (String part : parts) {
                Trial.dueYard("temper " + four[i] + part + closed[i] + ";");
                Trial.dueYard("damage " + four[i] + "(^" + part, 5);
                Trial.dueYard("damage " + four[i] + "not ^" + part + closed[i] + ";", 5);
            }
            Trial.dueYard("temper " + four[i] + "(^(1", 5);
            Trial.dueYard("temper " + four[i] + "(^not 1", 5);
            Trial.dueYard("temper " + four[i] + "not ^(1", 5);
            Trial.dueYard("temper " + four[i] + "not ^not 1", 5);
            Trial.dueYard("temper " + four[i] + "(^;", 1);
            Trial.dueYard("temper " + four[i] + "not ^;", 1);
            Trial.dueYard("temper " + four[i] + "(^)", 1);
            Trial.dueYard("temper " + four[i] + "(^+", 1);
            Trial.dueYard("temper " + four[i] + "(^", 1);
        }
    }

    private static void whatIsBesideDoesNotCount() {
        Trial.says("within: what ended ahead of a PART does not count");
        Trial.dueYard("temper ((((1)))) + ((((2)))) * not not not not 3;");
        Trial.dueYard("temper not not not not 1 + not not not not 2;");
        Trial.dueYard("temper not(1) + not(2) + not(3) + not(4) + not(5) + not(6);");
        Trial.dueYard("temper (((not 1 + not 2) + not 3) + not 4) + not not not not 5;");
        Trial.dueYard("temper ((((1) + 2) + 3) + (4)) + ((((5))));");
        Trial.dueYard("temper ((((1 + 2 * not ^3", 5);
        Trial.dueYard("temper not(not(1 + not ^2", 5);
        Trial.dueYard("temper (not(not 1 + not 2 + not not ^3", 5);
        Trial.dueYard("temper ((((1) + (2)) + ((3 + not ^4))));", 5);
        Trial.dueYard("temper not(not(1)) + not(not(not ^1));", 5);
        Trial.dueYard("temper not(not(1)) + not(not(1)) * ((((2))));");
        law("not not not not 1 + not not not not 2", 2);
        law("((((1)))) + ((((2)))) * not not not not 3", 3);
    }

    private static void whatCannotStandInALaw() {
        Trial.says("1 it is none, or can't stand there, within an E");
        Trial.dueYard("temper ^;", 1);
        Trial.dueYard("temper ^", 1);
        Trial.dueYard("temper 1 ^", 1);
        Trial.dueYard("temper 1 + ^;", 1);
        Trial.dueYard("temper 1 + ^+ 1;", 1);
        Trial.dueYard("temper ^- 1;", 1);
        Trial.dueYard("temper ^and 1;", 1);
        Trial.dueYard("temper 1 and ^and 1;", 1);
        Trial.dueYard("temper 1 ^not 1;", 1);
        Trial.dueYard("temper 1 ^lost;", 1);
        Trial.dueYard("temper 1 ^(2);", 1);
        Trial.dueYard("temper (1 ^;", 1);
        Trial.dueYard("temper 1 ^);", 1);
        Trial.dueYard("temper (1) ^);", 1);
        Trial.dueYard("temper (^);", 1);
        Trial.dueYard("temper not ^;", 1);
        Trial.dueYard("temper not ^and 1;", 1);
        Trial.dueYard("temper ^a;", 1);
        Trial.dueYard("temper ^worth;", 1);
        Trial.dueYard("temper lost ^damage 1;", 1);
        Trial.dueYard("person lost arm 1;temper lost;");
    }

    private static void aLongLaw() {
        Trial.says("The TAPE has at most 1,000 signs: so long a law is read and paid");
        StringBuilder text = new StringBuilder("temper 1");
        while (text.length() < 998) {
            text.append("+1");
        }
        text.append(";");
        Trial.dueYard(text.toString());
        Trial.dueYard(text + "^net 3;", 1);
        StringBuilder law = new StringBuilder("1");
        for (int i = 0; i < 300; i++) {
            law.append(i % 2 == 0 ? "+1" : "-1");
        }
        law(law.append("+6").toString(), 7);
        StringBuilder mixed = new StringBuilder("1");
        for (int i = 0; i < 60; i++) {
            mixed.append(" or 1<2+3*4");
        }
        law(mixed.toString(), 1);
    }

    private static GutterNine lived() {
        GutterNine g = of("temper lost;");
        g.days(2);
        g.see(0, 0);
        g.mark(1, false);
        return g;
    }

    private static void dueAnew(GutterNine g) {
        for (int i = 0; i < g.count(3); i++) {
            Trial.due("in hand: " + i, g.thing(i, 3), 64);
            Trial.due("nobody threw " + i, g.thing(i, 4), NONE);
        }
        for (int i = 0; i < 64; i++) {
            Trial.due("nothing on cell " + i, g.tile(i % 8, i / 8, 1), NONE);
        }
        Trial.due("day 0 is today", g.count(8), 0);
        Trial.due("nothing is paid", g.count(9), 0);
        Trial.due("nothing can be undone", g.count(10), 0);
        Trial.due("nothing SEEN", g.count(11), 0);
        Trial.due("undo()", g.undo(), false);
        for (int mark = 0; mark < 4; mark++) {
            Trial.due("no MARK " + mark, g.mark(mark, true), false);
        }
    }

    private static void aRoofBeginsAnew() {
        Trial.says("Without a FAULT a ROOF is the ROOF .. by either all THINGS are in hand, nobody threw them, day 0 ..");
        GutterNine g = lived();
        Trial.due("roof()", Trial.roof(g, "roof 3 2;row dud;row lrl;"), 0);
        dueAnew(g);
        Trial.due("the roof", g.tile(1, 0, 0), 2);
        Trial.due("the YARD stays", g.count(3), 4);
        Trial.due("who has an arm of ten, too", g.arm(0), 10);
        GutterNine told = Trial.of("ff ff", YARD + "shot left 0 up 2 times 5;shot left 0 up 3 times 7;net 2;"
            + "window 1 1 reach 1;first 5;temper 9 + lost;damage 4;");
        Trial.due("another roof", Trial.roof(told, "roof 3 3;row fpf;row fff;row fff;"), 0);
        Trial.due("its shots and net stay", told.pitch(2), 5);
        Trial.due("its first day stays", told.await(0), 1);
        told.toss(0, 1, 1, 2, 0);
        Trial.due("its window stays", told.broom(), 2);
        told.toss(0, 1, 1, 0, 0);
        told.days(1);
        Trial.due("its laws stay", told.count(9), 4 + 10);
        GutterNine smaller = Trial.of("ffff ffff ffff", YARD);
        smaller.toss(0, 1, 3, 2, 0);
        smaller.see(3, 1);
        Trial.due("a smaller roof", Trial.roof(smaller, "roof 2 2;row ff;row ff;"), 0);
        dueAnew(smaller);
        Trial.due("what was seen beyond it does not count", smaller.lies(0, 0, 0, 0, 0), 80);
    }

    private static void aYardBeginsAnew() {
        Trial.says("Without a FAULT .. a YARD the YARD from then on; by either all THINGS are in hand ..");
        GutterNine g = lived();
        Trial.due("yard()", Trial.yard(g, YARD + "first 3;"), 0);
        dueAnew(g);
        Trial.due("the ROOF stays", g.tile(2, 0, 0), 7);
        GutterNine gone = Trial.of("ff ff", "person a arm 1;shot left 0 up 1 times 1;net 3;window 1 1 reach 2;first 5;");
        Trial.due("an empty one", Trial.yard(gone, ""), 0);
        dueAnew(gone);
        Trial.due("nobody", gone.arm(0), NONE);
        Trial.due("no window", gone.broom(), NONE);
        Trial.due("no shots", gone.pitch(0), 0);
        Trial.due("Monday", gone.await(0), 6);
        Trial.due("shots without that net", Trial.yard(gone, "shot left 0 up 12 times 3;"), 0);
        Trial.due("no net", gone.pitch(0), 3);
    }

    private static void aFaultLeavesAll() {
        Trial.says("0, or its FAULT (all stays then)");
        String[] roofs = {"", "row", "roof 9", "roof 3 3;row ddd;row ddd;", "roof 2 2;row ff;row dd;row"};
        String[] yards = {"x", "person", "person b arm 3;net 12;net", "first 5;temper 1;damage 9;window 1 1 reach 8;first",
            "person c arm 1;thing q ball of c worth 1;thing q"};
        GutterNine g = lived();
        String ahead = Trial.all(g);
        for (int i = 0; i < 5; i++) {
            Trial.due("a ROOF's FAULT", Trial.roof(g, roofs[i]) > 0, true);
            Trial.due("all stays", Trial.all(g), ahead);
            Trial.due("a YARD's FAULT", Trial.yard(g, yards[i]) > 0, true);
            Trial.due("all stays", Trial.all(g), ahead);
        }
        Trial.due("the window stays away", g.broom(), NONE);
        Trial.due("what is seen stays", g.lies(0, 3, 1, 0, 0), NONE);
        Trial.due("the week stays", g.await(0), 4);
        Trial.due("the laws stay: 1 for each of 4 days, 2", g.days(4), 6);
        Trial.due("paid", g.count(9), 6 + 2);
        Trial.due("the MARK stays", g.mark(1, true), true);
        Trial.due("back there", g.count(8), 2);
    }

    private static void aFaultIsForgotten() {
        Trial.says("what a text with a FAULT told is forgotten: the next one is read as if by a new object");
        String[] wrongs = {"temper ((1", "temper ((((1 + not 2 * 3", "damage not not not not not 1", "temper 1 < 2 < 3",
            "temper 1 and not", "person a arm 1;person b arm 2;person c arm 3;person d arm 4;person e",
            "person a arm 10;thing b ball of a worth 1;thing s shoe of a worth 1;thing o shoe of b",
            "net 1;window 1 1 reach 1;first 5;temper 50;damage 50;net", "shot left 0 up 1 times 1;shot left 0 up 1 times 2;shot",
            "first 5;temper 1 2"};
        for (String wrong : wrongs) {
            GutterNine g = Trial.of("ufp ffc", "");
            for (int i = 0; i < 3; i++) {
                Trial.due("a FAULT of " + wrong, Trial.yard(g, wrong) > 0, true);
                Trial.due("an empty YARD", Trial.yard(g, ""), 0);
                Trial.due("a FAULT of " + wrong, Trial.yard(g, wrong) > 0, true);
                Trial.due("a FAULT of a ROOF", Trial.roof(g, "roof 8 8;row gggggggg;row pppppppp;row ccccccc;") > 0, true);
                Trial.due("a good YARD", Trial.yard(g, YARD + "temper ((((3)))) + not not not not lost;damage 2 * (1 + 1);"), 0);
                dueGood(g);
            }
        }
    }

    private static void dueGood(GutterNine g) {
        Trial.due("one PERSON", g.count(2), 1);
        Trial.due("four THINGS", g.count(3), 4);
        Trial.due("no window", g.broom(), NONE);
        Trial.due("no shots", g.pitch(0), 0);
        Trial.due("Monday", g.await(0), 6);
        put(g, 0, 1, 1, 9);
        put(g, 1, 2, 0, 66);
        g.days(6);
        Trial.due("six days of damage, temper", g.count(9), 6 * 4 + 3 + 1);
        Trial.due("the roof is as wide", g.count(0), 3);
        Trial.due("and as deep", g.count(1), 2);
        Trial.due("with its tiles", g.tile(0, 0, 0) * 100 + g.tile(2, 0, 0) * 10 + g.tile(2, 1, 0), 278);
    }

    private static void put(GutterNine g, int thing, int x, int y, int want) {
        Trial.due("put " + thing, g.toss(0, thing, x, y, 0), want);
    }

    private static void yardsInTurn() {
        Trial.says("a YARD the YARD from then on: nothing stays of those ahead");
        String full = "person a arm 10;person b arm 9;person c arm 8;person d arm 7;thing s shoe of a worth 1;"
            + "thing t shoe of b worth 1;thing u shoe of c worth 1;thing v shoe of d worth 1;thing w shoe of d worth 1;"
            + "shot left 0 up 1 times 9;net 0;window 0 0 reach 8;first 5;temper 90;damage 80;";
        String small = "person a arm 0;thing x shoe of a worth 60;thing y shoe of a worth 0;";
        GutterNine g = new GutterNine();
        for (int round = 0; round < 3; round++) {
            for (int twice = 0; twice < 2; twice++) {
                Trial.due("a full YARD", Trial.yard(g, full), 0);
                Trial.due("four PEOPLE", g.count(2), 4);
                Trial.due("five THINGS", g.count(3), 5);
                Trial.due("Saturday", g.await(0), 1);
            }
            for (int twice = 0; twice < 3; twice++) {
                Trial.due("a small YARD", Trial.yard(g, small), 0);
                Trial.due("one PERSON", g.count(2), 1);
                Trial.due("two THINGS", g.count(3), 2);
                Trial.due("Monday", g.await(0), 6);
                Trial.due("no shots", g.pitch(0), 0);
                Trial.due("no window", g.broom(), NONE);
                put(g, 0, 0, 1, 8);
                Trial.due("by arm 0 it does not come", g.plan(1), 0);
                Trial.due("not alone", g.alone(0, 0), 0);
                Trial.due("nobody else throws", g.odds(1, 1, 0, 1, 0), NONE);
                g.days(6);
                Trial.due("temper: lost", g.count(9), 1);
                Trial.due("an empty YARD", Trial.yard(g, ""), 0);
                Trial.due("nobody", g.count(2) + g.count(3), 0);
            }
        }
    }

    private static void atFirst() {
        Trial.says("At first: roof 2 2, all flat; nobody");
        GutterNine g = new GutterNine();
        Trial.due("wide", g.count(0), 2);
        Trial.due("deep", g.count(1), 2);
        for (int i = 0; i < 64; i++) {
            Trial.due("tile " + i, g.tile(i % 8, i / 8, 0), i == 0 || i == 1 || i == 8 || i == 9 ? 0 : NONE);
        }
        for (int what = 2; what <= 12; what++) {
            Trial.due("count(" + what + ")", g.count(what), 0);
        }
        dueAnew(g);
        Trial.due("arm(0)", g.arm(0), NONE);
        Trial.due("thing(0, 0)", g.thing(0, 0), NONE);
        Trial.due("broom()", g.broom(), NONE);
        Trial.due("await(0)", g.await(0), 6);
    }
}
