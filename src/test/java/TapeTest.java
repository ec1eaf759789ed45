/** Promises 1 to 4: a new object, the TAPE, and what is read from it, with every FAULT. */
public final class TapeTest {
    private static final String PERSON = "person pp arm 1 ; ";

    public static void main(String[] args) {
        newObject();
        feeding();
        tokens();
        roofs();
        roofFaults();
        yardFaults();
        linesCutShort();
        names();
        laws();
        lawFaults();
        readingAnew();
        Trial.end();
    }

    private static void newObject() {
        GutterNine g = new GutterNine();
        int[] want = {2, 2, 0, 0, 0, 0, 0, 0, 0, 0, 0, 0, 0};
        for (int what = 0; what < want.length; what++) {
            Trial.due("new: count(" + what + ")", g.count(what), want[what]);
        }
        for (int cell = 0; cell < 4; cell++) {
            Trial.due("new: tile " + cell, g.tile(cell % 2, cell / 2, 0), 0);
        }
        Trial.due("new: undo()", g.undo(), false);
        Trial.due("new: broom()", g.broom(), GutterNine.NONE);
        Trial.due("NONE", GutterNine.NONE, -1);
    }

    private static void feeding() {
        GutterNine g = new GutterNine();
        Trial.due("feed of nothing", g.feed(0, 0, 0), 0);
        Trial.due("feed of 9, 10, 11, 31, 32, 126, 127, 128", g.feed(0x090a0b1f207e7f80L, 0, 0), 3);
        Trial.due("feed of 255s", g.feed(-1, -1, -1), 3);
        Trial.due("feed of 24", g.feed(0x6161616161616161L, 0x6161616161616161L, 0x6161616161616161L), 27);
        for (int i = 0; i < 60; i++) {
            g.feed(0x2020202020202020L, 0x2020202020202020L, 0x2020202020202020L);
        }
        Trial.due("feed beyond 1,000", g.feed(0x6161616161616161L, 0, 0), 1000);
        Trial.due("count(12)", g.count(12), 1000);
        g.yard();
        Trial.due("count(12) behind yard()", g.count(12), 0);
        Trial.due("order of the bytes", Trial.roof(g, "roof 2 3;row fd;row ul;row rm;"), 0);
        Trial.due("tile(1, 2, 0)", g.tile(1, 2, 0), 5);
        Trial.feed(g, "roof");
        Trial.due("roof() takes the tape", g.roof(), 1 + 16 * 4);
        Trial.due("count(12) behind a FAULT", g.count(12), 0);
    }

    private static void fault(boolean asRoof, String text, int kind, int place) {
        GutterNine g = new GutterNine();
        int got = asRoof ? Trial.roof(g, text) : Trial.yard(g, text);
        Trial.due((asRoof ? "roof of " : "yard of ") + text, got, kind == 0 ? 0 : kind + 16 * place);
        if (kind != 0) {
            Trial.due("all stays: wide", g.count(0), 2);
            Trial.due("all stays: people", g.count(2), 0);
        }
    }

    private static void tokens() {
        fault(true, "roof 2 2;row ff;row ff;", 0, 0);
        fault(true, "roof\n2\n2\n;\nrow\nff;row dd;\n \n", 0, 0);
        fault(true, "roof0002 0003;rowff;row ff;row ff;", 1, 14);
        fault(true, "roof0002 0003;row ff;row ff;row ff;", 0, 0);
        fault(true, "roof 2 2row", 1, 8);
        fault(true, "roof 00002", 1, 5);
        fault(true, "roof 12345", 1, 5);
        fault(true, "roof 2 2 ; row fffffffff", 1, 15);
        fault(true, "roof 2 2 ; row ffffffff", 2, 15);
        fault(true, "roofroofr 2", 1, 0);
        fault(true, "ROOF 2 2", 1, 0);
        fault(true, "roof 2,2", 1, 6);
        fault(true, "", 1, 0);
        fault(true, "   ", 1, 3);
        fault(false, "", 0, 0);
        fault(false, " \n ", 0, 0);
        fault(false, "person a arm 5;person b arm 6;", 0, 0);
        fault(false, "person a arm 5 thing", 1, 15);
        fault(false, "shot left1up2times3;", 0, 0);
        fault(false, "!", 1, 0);
    }

    private static void roofs() {
        GutterNine g = Trial.of("fdu lrm gpc", "");
        for (int i = 0; i < 9; i++) {
            Trial.due("tile " + i, g.tile(i % 3, i / 3, 0), i);
        }
        GutterNine big = Trial.of("cccccccc ffffffff ffffffff ffffffff ffffffff ffffffff ffffffff pppppppp", "");
        Trial.due("big: tile(7, 7, 0)", big.tile(7, 7, 0), 7);
        Trial.due("big: count(0)", big.count(0), 8);
        Trial.due("big: count(1)", big.count(1), 8);
    }

    private static void roofFaults() {
        fault(true, "roof 1 2", 4, 5);
        fault(true, "roof 8 9", 4, 7);
        fault(true, "roof 9999 2", 4, 5);
        fault(true, "roof 2", 1, 6);
        fault(true, "roof ff", 1, 5);
        fault(true, "roof 2 2 row", 1, 9);
        fault(true, "roof 2 2 ; row f ;", 2, 15);
        fault(true, "roof 2 2 ; row fk ;", 2, 15);
        fault(true, "roof 2 2 ; row ff row", 1, 18);
        fault(true, "roof 2 2 ; row ff ; ", 1, 20);
        fault(true, "roof 2 2 ; row ff ; roof", 1, 20);
        fault(true, "roof 2 2 ; row ff ; row dd ; row ff ;", 5, 29);
        fault(true, "roof 2 2 ; row ff ; row dd ; roof", 1, 29);
        fault(true, "roof 2 2 ; row ff ; row dd ; ;", 1, 29);
        fault(true, "person", 1, 0);
        fault(true, "row ff ;", 1, 0);
    }

    private static void yardFaults() {
        fault(false, "roof", 1, 0);
        fault(false, ";", 1, 0);
        fault(false, "person", 1, 6);
        fault(false, "person 5", 1, 7);
        fault(false, "person a b", 1, 9);
        fault(false, "person a arm b", 1, 13);
        fault(false, "person a arm 10 ;", 0, 0);
        fault(false, "person a arm 11 ;", 4, 13);
        fault(false, "person a arm 1 person", 1, 15);
        String four = "person a arm 1;person b arm 1;person c arm 1;person d arm 1;";
        fault(false, four, 0, 0);
        fault(false, four + "person 5", 5, four.length());
        StringBuilder eight = new StringBuilder(PERSON);
        for (char c = 'a'; c < 'i'; c++) {
            eight.append("thing ").append(c).append(" ball of pp worth 99;");
        }
        fault(false, eight.toString(), 0, 0);
        fault(false, eight + "thing", 5, eight.length());
        fault(false, PERSON + "thing t ball worth", 1, 31);
        fault(false, PERSON + "thing t ball of worth", 1, 34);
        fault(false, PERSON + "thing t ball of 5", 1, 34);
        fault(false, PERSON + "thing t ball of t", 2, 34);
        fault(false, PERSON + "thing t ball of qq", 2, 34);
        fault(false, PERSON + "thing t ball of pp 5", 1, 37);
        fault(false, PERSON + "thing t ball of pp worth 100", 4, 43);
        fault(false, PERSON + "thing t balls", 1, 26);
        fault(false, PERSON + "thing t ball of pp worth 0;thing t", 3, 51);
        fault(false, PERSON + "thing t ball of pp worth 0;thing u ball of t", 2, 61);
        fault(false, PERSON + "thing t ball of pp worth 0;person t", 3, 52);
        String six = "shot left 0 up 1 times 1;shot left 8 up 12 times 99;shot right 8 up 1 times 1;"
            + "shot left 0 up 1 times 1;shot left 0 up 1 times 1;shot left 0 up 1 times 1;";
        fault(false, six, 0, 0);
        fault(false, six + "shot", 5, six.length());
        fault(false, "shot left 8 up 0", 4, 15);
        fault(false, "shot right 0 up 13", 4, 16);
        fault(false, "shot right 9", 4, 11);
        fault(false, "shot right 0 up 1 times 100", 4, 24);
        fault(false, "shot right 0 up 1 times 0", 4, 24);
        fault(false, "shot 5", 1, 5);
        fault(false, "net 12;first 6;window 7 7 reach 8;temper 0;damage 0;", 0, 0);
        fault(false, "net 0;net", 3, 6);
        fault(false, "window 0 0 reach 0;window", 3, 19);
        fault(false, "first 0;first", 3, 8);
        fault(false, "temper 0;temper", 3, 9);
        fault(false, "damage 0;temper 0;damage", 3, 18);
        fault(false, "window 0 8", 4, 9);
        fault(false, "window 0 0 0", 1, 11);
        fault(false, "window 0 0 reach 9", 4, 17);
        fault(false, "first 7", 4, 6);
        fault(false, "net", 1, 3);
    }

    /** Each line ended by a semicolon, or by the text's end, behind each of its tokens but the last. */
    private static void linesCutShort() {
        String[] lines = {"person a arm 1", "thing t ball of pp worth 5", "shot left 1 up 2 times 3", "net 3",
            "window 1 2 reach 3", "first 2", "temper lost + ( 1 * not 3 )", "damage 1 < 2 and ( 5"};
        for (String line : lines) {
            String[] tokens = line.split(" ");
            StringBuilder text = new StringBuilder(PERSON);
            for (int i = 0; i < tokens.length - 1; i++) {
                text.append(tokens[i]).append(' ');
                boolean whole = text.toString().endsWith("temper lost ") || text.toString().endsWith("damage 1 ")
                    || text.toString().endsWith("2 ") && text.toString().contains("damage");
                fault(false, text + "; ", whole ? 0 : 1, text.length());
                fault(false, text.toString(), 1, text.length());
            }
        }
        String roof = "roof 2 2 ; row ff ; row dd ;";
        for (int i = 0; i < roof.length() - 1; i++) {
            boolean within = i > 0 && Character.isLetter(roof.charAt(i - 1)) && Character.isLetter(roof.charAt(i));
            if (!within) {
                fault(true, roof.substring(0, i), 1, i);
            }
        }
    }

    private static void names() {
        String[] reserved = {"person", "arm", "thing", "of", "worth", "shot", "left", "right", "up", "times", "net",
            "window", "reach", "first", "temper", "damage", "ball", "shoe", "frisbee", "stick", "not", "and", "or"};
        for (String word : reserved) {
            fault(false, "person " + word + " arm 1;", 1, 7);
            fault(false, PERSON + "thing " + word + " ball", 1, 24);
            fault(false, PERSON + "thing t ball of " + word, 1, 34);
        }
        for (String word : new String[] {"roof", "row", "lost", "value", "days", "a", "abcdefgh", "balls"}) {
            fault(false, "person " + word + " arm 1;", 0, 0);
        }
        fault(false, "person abcdefghi arm 1;", 1, 7);
        fault(false, "person ab arm 1;person a arm 1;person b arm 1;person ba arm 1;", 0, 0);
    }

    /** What a law comes to with a ball worth 7 and a shoe worth 5 on the roof, two DAYS having passed. */
    private static void law(String law, int want) {
        GutterNine g = Trial.of("ff ff", "person a arm 10;thing b ball of a worth 7;thing s shoe of a worth 5;"
            + "thing o shoe of a worth 50; first 3; temper " + law + ";");
        g.toss(0, 0, 0, 0, 0);
        g.toss(0, 1, 1, 1, 0);
        g.days(2);
        Trial.due(law + ": nothing is paid ahead of Saturday", g.count(9), 0);
        g.days(1);
        Trial.due(law, g.count(9), want);
        Trial.due(law + ": all in hand", g.count(4), 3);
    }

    private static void laws() {
        law("lost", 2);
        law("value", 12);
        law("days", 2);
        law("7", 7);
        law("0", 0);
        law("99", 99);
        law("100", 99);
        law("9999*9999*9999", 0);
        law("9999*9999*9999*9999", 99);
        law("0 - 1", 0);
        law("2 + 3 * 4", 14);
        law("(2 + 3) * 4", 20);
        law("20 - 3 - 4", 13);
        law("20 - (3 - 4)", 21);
        law("not 0 + 5", 6);
        law("not (0 + 5)", 0);
        law("not not 5", 1);
        law("5 and 3", 1);
        law("5 and 0", 0);
        law("0 or 3", 1);
        law("0 or 0", 0);
        law("1 or 0 and 0", 0);
        law("0 and 0 or 1", 1);
        law("1 or (0 and 0)", 1);
        law("2 < 3", 1);
        law("3 < 3", 0);
        law("3 = 3", 1);
        law("2 + 1 = 3 and 5 < 6", 1);
    }

    private static void lawFaults() {
        fault(false, "temper ;", 1, 7);
        fault(false, "temper 1", 1, 8);
        fault(false, "temper 1 + ;", 1, 11);
        fault(false, "temper 1 2", 1, 9);
        fault(false, "temper (1 ;", 1, 10);
        fault(false, "temper 1) ;", 1, 8);
        fault(false, "temper () ;", 1, 8);
        fault(false, "temper - 1", 1, 7);
        fault(false, "temper roof", 1, 7);
        fault(false, "temper 12345", 1, 7);
        fault(false, "temper 1 < 2 = 3", 1, 13);
        fault(false, "temper 1 = 2 < 3", 1, 13);
        fault(false, "temper 1 < 2 + 3 < 4", 1, 17);
        fault(false, "temper (1 < 2) = 3 and (1 = 1) < 4;", 0, 0);
        fault(false, "temper 1 < 2 and 2 < 3 or 3 = 3;", 0, 0);
        fault(false, "temper 1 not", 1, 9);
        fault(false, "temper ((((1))));", 0, 0);
        fault(false, "temper (((((1", 5, 12);
        fault(false, "temper ((((((", 5, 12);
        fault(false, "temper (((((;", 1, 12);
        fault(false, "temper (((((x", 1, 12);
        fault(false, "temper not not not not lost;", 0, 0);
        fault(false, "temper not not not not not lost;", 5, 27);
        fault(false, "temper not not not not not not", 5, 27);
        fault(false, "temper not(not(1", 0 + 1, 16);
        fault(false, "temper not(not(1)) + not(not(not 1));", 5, 33);
        fault(false, "temper not(not(1)) + not(not(1)) * ((((2))));", 0, 0);
        fault(false, "damage lost person", 1, 12);
    }

    private static void readingAnew() {
        String yard = "person a arm 10;thing b ball of a worth 7;";
        GutterNine g = Trial.of("ff ff", yard);
        for (int round = 0; round < 2; round++) {
            g.toss(0, 0, 0, 0, 0);
            g.see(0, 0);
            g.mark(2, false);
            g.days(3);
            Trial.due("a FAULT leaves all", Trial.roof(g, "roof 3"), 1 + 16 * 6);
            Trial.due("a FAULT leaves all, too", Trial.yard(g, "net 5; net"), 3 + 16 * 7);
            Trial.due("count(5)", g.count(5), 1);
            Trial.due("count(8)", g.count(8), 3);
            Trial.due("count(10)", g.count(10), 2);
            Trial.due("read again", round == 0 ? Trial.roof(g, "roof 2 2;row ff;row ff;") : Trial.yard(g, yard), 0);
            Trial.due("thing(0, 3)", g.thing(0, 3), 64);
            Trial.due("thing(0, 4)", g.thing(0, 4), GutterNine.NONE);
            Trial.due("tile(0, 0, 1)", g.tile(0, 0, 1), GutterNine.NONE);
            for (int what = 8; what <= 11; what++) {
                Trial.due("count(" + what + ") behind reading", g.count(what), 0);
            }
            Trial.due("undo()", g.undo(), false);
            Trial.due("mark(2, true)", g.mark(2, true), false);
        }
        Trial.due("a yard of nobody", Trial.yard(g, ""), 0);
        Trial.due("count(2)", g.count(2), 0);
        Trial.due("count(3)", g.count(3), 0);
    }
}
