/** Section 1 of the document, the YARD, its laws and the FAULTS: each sentence that names an edge has its own test. */
public final class YardEdgesTest {
    private static final int NONE = GutterNine.NONE;
    private static final String A = "person a arm 10;";
    private static final String[] RESERVED = {"person", "arm", "thing", "of", "worth", "shot", "left", "right", "up",
        "times", "net", "window", "reach", "first", "temper", "damage", "ball", "shoe", "frisbee", "stick", "not",
        "and", "or"};

    public static void main(String[] args) {
        anyNumberOfLines();
        anotherLine();
        fourPeople();
        armOfTen();
        eightThings();
        fourKinds();
        ofAPersonTold();
        worthBelowHundred();
        sixShots();
        shotsToASide();
        shotsUp();
        shotsTimes();
        nets();
        windows();
        firstDays();
        onceEach();
        namesAreOtherWords();
        noTwoNamesAlike();
        linesCutShort();
        Trial.end();
    }

    private static void anyNumberOfLines() {
        Trial.says("YARD: any number of lines");
        Trial.dueYard("");
        Trial.dueYard("  \n ");
        Trial.dueYard("net 3;");
        Trial.dueYard("damage 1;temper 2;first 3;window 4 5 reach 6;net 7;shot left 8 up 9 times 10;person a arm 1;"
            + "thing t ball of a worth 2;shot right 1 up 2 times 3;person b arm 4;thing u stick of b worth 5;");
        GutterNine g = Trial.of("ff ff", "");
        Trial.due("nobody", g.count(2), 0);
        Trial.due("nothing", g.count(3), 0);
        Trial.due("no window", g.broom(), NONE);
        Trial.due("no shots", g.pitch(0), 0);
    }

    private static void anotherLine() {
        Trial.says("1 it is none, or can't stand there");
        for (String word : new String[] {"roof 2 2;", "row ff;", ";", "5", "arm", "lost", "of", "a", "(", "ball", "!"}) {
            Trial.dueYard("^" + word, 1);
            Trial.dueYard("net 3; ^" + word, 1);
        }
        Trial.dueYard("net 3;^;", 1);
        Trial.dueYard("net 3 ^net 3;", 1);
    }

    private static void fourPeople() {
        Trial.says("person: 4 at most, numbered as told (5: person of a fifth)");
        StringBuilder text = new StringBuilder();
        for (int i = 0; i < 4; i++) {
            text.append("person ").append((char) ('d' - i)).append(" arm ").append(i + 3).append(" ;");
            GutterNine g = Trial.of("ff ff", text.toString());
            Trial.due("count(2)", g.count(2), i + 1);
            for (int j = 0; j < 5; j++) {
                Trial.due("arm(" + j + ")", g.arm(j), j <= i ? j + 3 : NONE);
            }
        }
        Trial.dueYard(text + "^person e arm 1;", 5);
        Trial.dueYard(text + "^person", 5);
        Trial.dueYard(text + "^person d arm 11 person", 5);
        Trial.dueYard(text + "net 1; ^person", 5);
    }

    private static void armOfTen() {
        Trial.says("arm 0 to 10 (4 a NUMBER that is not as told)");
        for (int arm = 0; arm <= 10; arm++) {
            Trial.due("arm(0)", Trial.of("ff ff", "person a arm " + arm + ";").arm(0), arm);
        }
        Trial.dueYard("person a arm ^11;", 4);
        Trial.dueYard("person a arm ^9999;", 4);
        Trial.dueYard("person a arm ^00011;", 1);
        Trial.dueYard("person a arm ^-1;", 1);
    }

    private static void eightThings() {
        Trial.says("thing: 8 at most, numbered as told (5: thing of a ninth)");
        StringBuilder text = new StringBuilder(A);
        for (int i = 0; i < 8; i++) {
            text.append("thing ").append((char) ('z' - i)).append(" shoe of a worth ").append(i + 1).append(";");
            GutterNine g = Trial.of("ff ff", text.toString());
            Trial.due("count(3)", g.count(3), i + 1);
            Trial.due("count(4)", g.count(4), i + 1);
            for (int j = 0; j < 9; j++) {
                Trial.due("thing(" + j + ", 2)", g.thing(j, 2), j <= i ? j + 1 : NONE);
                Trial.due("thing(" + j + ", 3)", g.thing(j, 3), j <= i ? 64 : NONE);
            }
        }
        Trial.dueYard(text + "^thing b ball of a worth 1;", 5);
        Trial.dueYard(text + "^thing", 5);
        Trial.dueYard(text + "^thing z cat", 5);
        Trial.dueYard(text + "person b arm 1; ^thing", 5);
    }

    private static void fourKinds() {
        Trial.says("KIND: ball, shoe, frisbee, stick");
        String[] kinds = {"ball", "shoe", "frisbee", "stick"};
        for (int kind = 0; kind < 4; kind++) {
            GutterNine g = Trial.of("ff ff", A + "thing t " + kinds[kind] + " of a worth 1;");
            Trial.due("thing(0, 0) of a " + kinds[kind], g.thing(0, 0), kind);
        }
        for (String word : new String[] {"balls", "shoes", "cat", "of", "a", "t", "5", ";", "frisbees", "sticks"}) {
            Trial.dueYard(A + "thing t ^" + word + " of a worth 1;", 1);
        }
    }

    private static void ofAPersonTold() {
        Trial.says("of a PERSON told (2 a NAME of no PERSON told, behind of)");
        GutterNine g = Trial.of("ff ff", "person a arm 1;person b arm 1;thing t ball of b worth 1;thing u ball of a worth 1;");
        Trial.due("thing(0, 1)", g.thing(0, 1), 1);
        Trial.due("thing(1, 1)", g.thing(1, 1), 0);
        Trial.dueYard("thing t ball of ^a worth 1;person a arm 1;", 2);
        Trial.dueYard(A + "thing t ball of ^t worth 1;", 2);
        Trial.dueYard(A + "thing t ball of ^aa worth 1;", 2);
        Trial.dueYard(A + "thing t ball of a worth 1;thing u ball of ^t worth 1;", 2);
        Trial.dueYard("person ab arm 1;thing t ball of ^a worth 1;", 2);
        Trial.dueYard("person ab arm 1;thing t ball of ^ba worth 1;", 2);
        Trial.dueYard(A + "thing t ball of ^5", 1);
        Trial.dueYard(A + "thing t ball of ^;", 1);
        Trial.dueYard(A + "thing t ball of ^", 1);
        Trial.dueYard("person abcdefgh arm 1;thing t ball of abcdefgh worth 1;");
    }

    private static void worthBelowHundred() {
        Trial.says("worth 0 to 99");
        for (int worth = 0; worth <= 99; worth += 33) {
            Trial.due("thing(0, 2)", Trial.of("ff ff", A + "thing t ball of a worth " + worth + ";").thing(0, 2), worth);
        }
        Trial.dueYard(A + "thing t ball of a worth ^100;", 4);
        Trial.dueYard(A + "thing t ball of a worth ^9999;", 4);
        Trial.dueYard(A + "thing t ball of a worth 0099;");
    }

    private static void sixShots() {
        Trial.says("shot: 6 at most (5: shot of a seventh)");
        StringBuilder text = new StringBuilder();
        for (int i = 0; i < 6; i++) {
            text.append("shot left 0 up 1 times ").append(1 << i).append(";");
            Trial.due("pitch(2)", Trial.of("ff ff", text.toString()).pitch(2), (2 << i) - 1);
        }
        Trial.dueYard(text + "^shot left 0 up 1 times 1;", 5);
        Trial.dueYard(text + "^shot", 5);
        Trial.dueYard(text + "net 3; ^shot up", 5);
    }

    private static void shotsToASide() {
        Trial.says("SIDE: left, right; 0 to 8 CELLS to that side");
        String wide = "ffffffff ffffffff";
        for (int aside = 0; aside <= 8; aside++) {
            GutterNine left = Trial.of(wide, "shot left " + aside + " up 1 times 1;");
            GutterNine right = Trial.of(wide, "shot right " + aside + " up 1 times 1;");
            for (int x = 0; x < 8; x++) {
                Trial.due(aside + " to the left from " + x, left.pitch(2 + x), x - aside >= 0 ? 1 : 0);
                Trial.due(aside + " to the right from " + x, right.pitch(2 + x), x + aside < 8 ? 1 : 0);
            }
        }
        Trial.dueYard("shot left ^9 up 1 times 1;", 4);
        Trial.dueYard("shot right ^9 up 1 times 1;", 4);
        Trial.dueYard("shot right ^10 up 1 times 1;", 4);
        for (String word : new String[] {"up", "lefts", "a", "5", ";", "times", "ball"}) {
            Trial.dueYard("shot ^" + word + " 1 up 1 times 1;", 1);
        }
    }

    private static void shotsUp() {
        Trial.says("up 1 to 12");
        for (int up = 1; up <= 12; up++) {
            GutterNine g = Trial.of("ff ff ff ff", "shot left 0 up " + up + " times 1;");
            Trial.due("up " + up, g.pitch(2), 1);
        }
        Trial.dueYard("shot left 0 up ^0 times 1;", 4);
        Trial.dueYard("shot left 0 up ^13 times 1;", 4);
        Trial.dueYard("shot left 0 up ^times 1;", 1);
    }

    private static void shotsTimes() {
        Trial.says("times 1 to 99");
        for (int times = 1; times <= 99; times++) {
            Trial.due("times " + times, Trial.of("ff ff", "shot left 0 up 1 times " + times + ";").pitch(2), times);
        }
        Trial.dueYard("shot left 0 up 1 times ^0;", 4);
        Trial.dueYard("shot left 0 up 1 times ^100;", 4);
        Trial.dueYard("shot left 0 up 1 times ^;", 1);
    }

    private static void nets() {
        Trial.says("net: 0 to 12");
        for (int net = 0; net <= 12; net++) {
            GutterNine g = Trial.of("ff ff", "shot left 0 up 1 times 1;shot left 0 up 12 times 2;net " + net + ";");
            Trial.due("net " + net, g.pitch(2), (net >= 1 ? 1 : 0) + (net >= 12 ? 2 : 0));
        }
        Trial.dueYard("net ^13;", 4);
        Trial.dueYard("net ^;", 1);
    }

    private static void windows() {
        Trial.says("window: 0 to 7 each, reach 0 to 8");
        for (int x = 0; x <= 7; x++) {
            for (int y = 0; y <= 7; y++) {
                Trial.dueYard("window " + x + " " + y + " reach " + (x + y) % 9 + ";");
            }
        }
        Trial.dueYard("window ^8 0 reach 0;", 4);
        Trial.dueYard("window 0 ^8 reach 0;", 4);
        Trial.dueYard("window 7 7 reach 8;");
        Trial.dueYard("window 7 7 reach ^9;", 4);
        Trial.dueYard("window 7 ^reach 8;", 1);
        Trial.dueYard("window 7 7 ^8;", 1);
    }

    private static void firstDays() {
        Trial.says("first: 0 to 6 (0 without a line; 5 is a Saturday)");
        int[] till = {6, 5, 4, 3, 2, 1, 7};
        for (int first = 0; first <= 6; first++) {
            Trial.due("await(0), first " + first, Trial.of("ff ff", "first " + first + ";").await(0), till[first]);
        }
        Trial.due("await(0) without a line", Trial.of("ff ff", "").await(0), 6);
        Trial.dueYard("first ^7;", 4);
        Trial.dueYard("first ^;", 1);
    }

    private static void onceEach() {
        Trial.says("net, window, first, temper, damage: once each (3: a second time)");
        String[] lines = {"net 3;", "window 0 0 reach 1;", "first 0;", "temper 1;", "damage 1;"};
        for (int i = 0; i < 5; i++) {
            for (int j = 0; j < 5; j++) {
                if (i == j) {
                    Trial.dueYard(lines[i] + "^" + lines[j], 3);
                    Trial.dueYard(lines[i] + A + "^" + lines[j].split(" ")[0], 3);
                } else {
                    Trial.dueYard(lines[i] + lines[j]);
                    Trial.dueYard(lines[i] + lines[j] + "^" + lines[i], 3);
                }
            }
        }
    }

    private static void namesAreOtherWords() {
        Trial.says("A NAME is another WORD than person, arm, thing, .. and, or");
        for (String word : RESERVED) {
            Trial.dueYard("person ^" + word + " arm 1;", 1);
            Trial.dueYard(A + "thing ^" + word + " ball of a worth 1;", 1);
            Trial.dueYard(A + "thing t ball of ^" + word + " worth 1;", 1);
            Trial.dueYard("person " + word + "x arm 1;thing x" + word.charAt(0) + " ball of " + word + "x worth 1;");
        }
        for (String word : new String[] {"roof", "row", "lost", "value", "days", "x", "none"}) {
            Trial.dueYard("person " + word + " arm 1;thing t ball of " + word + " worth 1;");
            Trial.dueYard(A + "thing " + word + " ball of a worth 1;");
        }
        Trial.dueYard("person ^5 arm 1;", 1);
        Trial.dueYard("person ^;", 1);
        Trial.dueYard("person ^", 1);
        Trial.dueYard("thing ^( ball", 1);
    }

    private static void noTwoNamesAlike() {
        Trial.says("no two (PEOPLE, THINGS) are alike (3 a NAME told already)");
        Trial.dueYard(A + "person ^a arm 1;", 3);
        Trial.dueYard(A + "thing ^a ball of a worth 1;", 3);
        Trial.dueYard(A + "thing t ball of a worth 1;thing ^t ball of a worth 1;", 3);
        Trial.dueYard(A + "thing t ball of a worth 1;person ^t arm 1;", 3);
        Trial.dueYard(A + "person b arm 1;person c arm 1;person ^c arm 1;", 3);
        Trial.dueYard("person abcdefgh arm 1;person ^abcdefgh arm 1;", 3);
        Trial.dueYard("person abcdefgh arm 1;person abcdefgx arm 1;person xbcdefgh arm 1;person abcdefg arm 1;");
        Trial.dueYard("person abcdefgh arm 1;person cbcdefgh arm 1;person abcdefgj arm 1;person abcdefih arm 1;");
        Trial.dueYard("person a arm 1;person aa arm 1;thing aaa ball of aa worth 1;thing aaaa ball of a worth 1;");
        Trial.dueYard("person ab arm 1;thing ba ball of ab worth 1;");
        StringBuilder all = new StringBuilder(A);
        for (char c = 'b'; c <= 'h'; c++) {
            all.append("thing ").append(c).append(" ball of a worth 1;");
        }
        Trial.dueYard(all + "thing ^h ball", 3);
        Trial.dueYard(all + "person ^h arm", 3);
    }

    private static void linesCutShort() {
        Trial.says("1 ... can't stand there: what a line asks for is not there");
        String[] lines = {"person b arm 1", "thing t ball of a worth 5", "shot left 1 up 2 times 3", "net 3",
            "window 1 2 reach 3", "first 2", "temper not ( 3 )", "damage lost"};
        for (String line : lines) {
            String[] tokens = line.split(" ");
            StringBuilder told = new StringBuilder(A);
            for (String token : tokens) {
                told.append(token).append(' ');
                boolean whole = told.toString().equals(A + line + " ");
                if (!whole) {
                    Trial.dueYard(told + "^;", 1);
                }
                Trial.dueYard(told + "^", 1);
                Trial.dueYard(told + "^!", 1);
            }
            Trial.dueYard(told + ";");
        }
        Trial.dueYard("person a ^;", 1);
        Trial.dueYard("person a arm ^;", 1);
        Trial.dueYard("person a arm 1 ^", 1);
        Trial.dueYard("person a arm 1 ^1;", 1);
        Trial.dueYard("person a ^1;", 1);
        Trial.dueYard(A + "thing t ^;", 1);
        Trial.dueYard(A + "thing t ball ^a worth 1;", 1);
        Trial.dueYard(A + "thing t ball of a ^1;", 1);
        Trial.dueYard(A + "thing t ball of a worth ^worth;", 1);
        Trial.dueYard(A + "thing t ball of a worth 1 ^net", 1);
        Trial.dueYard("shot left ^left 1 up 1 times 1;", 1);
        Trial.dueYard("shot left 1 ^1 times 1;", 1);
        Trial.dueYard("shot left 1 up 1 ^1;", 1);
        Trial.dueYard("shot left 1 up 1 times 1 ^1;", 1);
        Trial.dueYard("window 1 ^;", 1);
        Trial.dueYard("net 3 ^3;", 1);
        Trial.dueYard("first 3 ^", 1);
        Trial.dueYard("window 1 1 reach 1 ^up;", 1);
    }
}
