/** Section 1 of the document, the TAPE, the TOKENS and the ROOF: each sentence that names an edge has its own test. */
public final class TapeEdgesTest {
    private static final String SMALL = "roof 2 2 ; row ff ; row dd ;";

    public static void main(String[] args) {
        atMostThousandSigns();
        whatIsBeyondIsLeftOut();
        onlySomeSigns();
        highestByteFirst();
        signsLeftOutPartNothing();
        whatReadsItTakesIt();
        asLongAsCanBe();
        blanksWhereOneLikes();
        lettersFromAToZ();
        eightLettersAtMost();
        oneToFourDigits();
        aLetterRightBehind();
        theSigns();
        wideAndDeep();
        asManyRowsAsItIsDeep();
        asManyLettersAsItIsWide();
        theLettersOfTiles();
        fromTheRidgeDown();
        anotherLineThanRoofFirst();
        roofAgain();
        theEndIsOne();
        theFirstFromTheLeft();
        wrongTheLeast();
        Trial.end();
    }

    private static String blanks(int many) {
        return " ".repeat(many);
    }

    private static void atMostThousandSigns() {
        Trial.says("The TAPE has at most 1,000 signs");
        GutterNine g = new GutterNine();
        for (int i = 1; i <= 999; i++) {
            Trial.due("sign " + i, g.feed('a', 0, 0), i);
        }
        Trial.due("sign 1,000", g.feed('a', 0, 0), 1000);
        Trial.due("sign 1,001", g.feed('a', 0, 0), 1000);
        Trial.due("count(12)", g.count(12), 1000);
        Trial.dueRoof(blanks(1000 - SMALL.length()) + SMALL, 0, 0);
        Trial.dueYard(blanks(1000 - 6) + "net 3;", 0, 0);
        Trial.dueYard(blanks(1000 - 7) + "net 13;", 4, 997);
    }

    private static void whatIsBeyondIsLeftOut() {
        Trial.says("what is beyond 1,000, are left out");
        Trial.dueYard(blanks(1000 - 6) + "net 3;net 4;", 0, 0);
        Trial.dueYard(blanks(1000 - 5) + "net 3;", 1, 1000);
        GutterNine g = new GutterNine();
        Trial.due("feed of 992", Trial.feed(g, blanks(992)), 992);
        Trial.due("8 of 24 come", g.feed(0x6e65742031323b6eL, -1, 0x6e65742031323b6eL), 1000);
        Trial.due("yard() ends with the first sign of a line", g.yard(), 1 + 16 * 999);
        Trial.feed(g, blanks(994));
        Trial.due("6 of 24 come", g.feed(0x206e657420333b6eL, 0x6e65742031323b6eL, 0x6e65742031323b6eL), 1000);
        Trial.due("yard() of these alone", g.yard(), 1 + 16 * 1000);
        Trial.feed(g, blanks(993));
        Trial.due("7 of 24 come", g.feed(0x206e657420333b6eL, 0x6e65742031323b6eL, 0x6e65742031323b6eL), 1000);
        Trial.due("yard() of a whole line", g.yard(), 0);
    }

    private static void onlySomeSigns() {
        Trial.says("others than 10 and 32 .. 126 are left out");
        for (int place = 0; place < 24; place++) {
            GutterNine g = new GutterNine();
            int want = 0;
            for (long sign = 0; sign <= 255; sign++) {
                long eight = sign << 8 * (7 - place % 8);
                want += sign == 10 || sign >= 32 && sign <= 126 ? 1 : 0;
                int got = g.feed(place < 8 ? eight : 0, place / 8 == 1 ? eight : 0, place >= 16 ? eight : 0);
                Trial.due("sign " + sign + " at " + place, got, want);
            }
        }
        Trial.due("feed of nothing", new GutterNine().feed(0, 0, 0), 0);
        Trial.due("feed of 255s", new GutterNine().feed(-1, -1, -1), 0);
        Trial.due("feed of 128s", new GutterNine().feed(Long.MIN_VALUE, Long.MIN_VALUE, Long.MIN_VALUE), 0);
        Trial.due("feed of 24", new GutterNine().feed(0x7e7e7e7e7e7e7e7eL, 0x2020202020202020L, 0x0a0a0a0a0a0a0a0aL), 24);
    }

    private static void highestByteFirst() {
        Trial.says("the bytes of a, b, c, of each the highest first");
        GutterNine g = new GutterNine();
        Trial.due("roof 2 2;row fd;row u", g.feed(0x726f6f6620322032L, 0x3b726f772066643bL, 0x726f7720756d3b20L), 24);
        Trial.due("roof()", g.roof(), 0);
        int[] want = {0, 1, 2, 5};
        for (int i = 0; i < 4; i++) {
            Trial.due("tile " + i, g.tile(i % 2, i / 2, 0), want[i]);
        }
    }

    private static void signsLeftOutPartNothing() {
        Trial.says("others are left out: what is ahead and behind stands together");
        GutterNine g = new GutterNine();
        Trial.due("r, o, 0, o, 9, f, 255, blank", g.feed(0x726f006f0966ff20L, 0, 0), 5);
        Trial.due("the rest", Trial.feed(g, SMALL.substring(5)), SMALL.length());
        Trial.due("roof()", g.roof(), 0);
    }

    private static void whatReadsItTakesIt() {
        Trial.says("what reads it takes it: it is empty then");
        String[] texts = {SMALL, "roof", "", "net 3;", "net"};
        for (String text : texts) {
            for (int asRoof = 0; asRoof < 2; asRoof++) {
                GutterNine g = new GutterNine();
                Trial.due("feed", Trial.feed(g, text), text.length());
                int answer = asRoof == 1 ? g.roof() : g.yard();
                Trial.due("count(12) behind " + answer + " of " + text, g.count(12), 0);
                Trial.due("the next text stands alone", Trial.yard(g, "net 2;"), 0);
                Trial.due("the next one, too", Trial.roof(g, SMALL), 0);
                Trial.due("and nothing is left", g.roof(), 1);
            }
        }
    }

    private static void asLongAsCanBe() {
        Trial.says("TOKENS, each as long as can be");
        Trial.dueRoof("roofs 2 2", 1, 0);
        Trial.dueRoof("roof 22", 4, 5);
        Trial.dueRoof("roof 2 2;rowff;", 1, 9);
        Trial.dueYard("net 121;", 4, 4);
        Trial.dueYard("person aarm 1;", 1, 12);
        Trial.dueYard("temper 1 2;", 1, 9);
        Trial.dueYard("temper notlost;", 1, 7);
    }

    private static void blanksWhereOneLikes() {
        Trial.says("blanks (10, 32) between where one likes");
        Trial.dueRoof("roof2 2;row ff;row dd;", 0, 0);
        Trial.dueRoof("\n \nroof\n2\n2\n;\nrow\nff\n;\nrow\ndd\n;\n \n", 0, 0);
        Trial.dueRoof("  roof  2   2 ;  row   ff  ;  row dd ;   ", 0, 0);
        Trial.dueYard("net3;first6;window7 7reach8;temper(lost)*2;damage not(1);", 0, 0);
        Trial.dueYard("shot left8up12times99;", 0, 0);
        Trial.dueYard("shot\nright\n8\nup\n12\ntimes\n99\n;\n", 0, 0);
        Trial.dueRoof("ro of 2 2", 1, 0);
        Trial.dueRoof("roof 2\n2\n;\nr\now", 1, 11);
    }

    private static void lettersFromAToZ() {
        Trial.says("WORDS (letters a .. z ...)");
        Trial.dueYard("person az arm 1;person za arm 1;", 0, 0);
        Trial.dueYard("person a arm 1;person z arm 1;", 0, 0);
        for (char other : new char[] {'`', '{', 'A', 'Z', '@', '[', '_', '0'}) {
            Trial.dueYard("person " + other + " arm 1;", 1, 7);
            Trial.dueYard("person a" + other + " arm 1;", 1, 8);
            Trial.dueYard("person a arm 1;thing t ball of " + other, 1, 31);
            Trial.dueRoof("roof 2 2 ; row " + other, 1, 15);
            Trial.dueRoof("roof 2 2 ; row f" + other + " ;", 2, 15);
        }
    }

    private static void eightLettersAtMost() {
        Trial.says("WORDS (... 8 at most); a longer WORD, at its first sign, is none");
        Trial.dueYard("person abcdefgh arm 1;", 0, 0);
        Trial.dueYard("person abcdefghi arm 1;", 1, 7);
        Trial.dueYard("person abcdefgh arm 1;thing t ball of abcdefghi", 1, 38);
        Trial.dueYard("  persons", 1, 2);
        Trial.dueRoof("roof 8 2;row ffffffff;row dddddddd;", 0, 0);
        Trial.dueRoof("roof 8 2;row fffffffff;", 1, 13);
        Trial.dueYard("temper lostlostlost;", 1, 7);
    }

    private static void oneToFourDigits() {
        Trial.says("NUMBERS (1 to 4 digits ...); a longer NUMBER, at its first sign, is none");
        Trial.dueYard("net 3;", 0, 0);
        Trial.dueYard("net 03;", 0, 0);
        Trial.dueYard("net 0003;", 0, 0);
        Trial.dueYard("net 00003;", 1, 4);
        Trial.dueYard("net 9999;", 4, 4);
        Trial.dueYard("net 10000;", 1, 4);
        Trial.dueYard("net 99999999999999999999;", 1, 4);
        Trial.dueYard("temper 9999;", 0, 0);
        Trial.dueYard("temper 10000;", 1, 7);
        Trial.dueYard("temper 1+10000;", 1, 9);
        Trial.dueYard("net 9;first 0;", 0, 0);
        Trial.dueYard("net /;", 1, 4);
        Trial.dueYard("net :;", 1, 4);
        Trial.dueYard("net -1;", 1, 4);
    }

    private static void aLetterRightBehind() {
        Trial.says("NUMBERS (...; a letter may stand right behind)");
        Trial.dueYard("window 1 2reach 3;", 0, 0);
        Trial.dueYard("shot left 1up 2times 3;", 0, 0);
        Trial.dueYard("temper 1and 0or 5;", 0, 0);
        Trial.dueYard("net 3x", 1, 5);
        Trial.dueYard("net 12345x", 1, 4);
    }

    private static void theSigns() {
        Trial.says("the signs ( ) < = + - * ;  All else is none");
        Trial.dueYard("temper(1)<2;", 0, 0);
        for (char sign : "<=+-*".toCharArray()) {
            Trial.dueYard("temper 1" + sign + "1;", 0, 0);
        }
        for (char sign = 33; sign <= 126; sign++) {
            boolean letter = sign >= 'a' && sign <= 'z';
            boolean digit = sign >= '0' && sign <= '9';
            if (!letter && !digit && "<=+-*;()".indexOf(sign) < 0) {
                Trial.dueYard("temper 1" + sign + "1;", 1, 8);
                Trial.dueYard("temper 1;" + sign, 1, 9);
                Trial.dueRoof("roof 2 " + sign, 1, 7);
                Trial.dueRoof(SMALL + sign, 1, SMALL.length());
            }
        }
    }

    private static String roofOf(int wide, int deep, int rows) {
        StringBuilder text = new StringBuilder("roof ").append(wide).append(' ').append(deep).append(" ;");
        for (int i = 0; i < rows; i++) {
            text.append(" row ").append("f".repeat(wide)).append(" ;");
        }
        return text.toString();
    }

    private static void wideAndDeep() {
        Trial.says("roof N N ; first (how wide, how deep, 2 to 8 each)");
        for (int wide = 2; wide <= 8; wide++) {
            for (int deep = 2; deep <= 8; deep++) {
                GutterNine g = new GutterNine();
                Trial.due("roof " + wide + " " + deep, Trial.roof(g, roofOf(wide, deep, deep)), 0);
                Trial.due("wide", g.count(0), wide);
                Trial.due("deep", g.count(1), deep);
                Trial.due("the last cell", g.tile(wide - 1, deep - 1, 0), 0);
                Trial.due("beyond the side", g.tile(wide, 0, 0), GutterNine.NONE);
                Trial.due("beyond the last row", g.tile(0, deep, 0), GutterNine.NONE);
            }
        }
        for (int wrong : new int[] {0, 1, 9, 10, 22, 88, 9999}) {
            Trial.dueRoof("roof " + wrong + " 2 ;", 4, 5);
            Trial.dueRoof("roof 2 " + wrong + " ;", 4, 7);
        }
        Trial.dueRoof("roof ;", 1, 5);
        Trial.dueRoof("roof 2 ;", 1, 7);
        Trial.dueRoof("roof 2 2 2", 1, 9);
    }

    private static void asManyRowsAsItIsDeep() {
        Trial.says("then so many times as it is deep   row WORD ;   (5: the words row of one more than it is deep)");
        for (int deep = 2; deep <= 8; deep++) {
            String less = roofOf(3, deep, deep - 1);
            String whole = roofOf(3, deep, deep);
            Trial.dueRoof(less, 1, less.length());
            Trial.dueRoof(less + " net", 1, less.length() + 1);
            Trial.dueRoof(whole, 0, 0);
            Trial.dueRoof(whole + " row", 5, whole.length() + 1);
            Trial.dueRoof(whole + " row x ; row", 5, whole.length() + 1);
            Trial.dueRoof(whole + " rows", 1, whole.length() + 1);
        }
        Trial.dueRoof("roof 2 2 ;", 1, 10);
    }

    private static void asManyLettersAsItIsWide() {
        Trial.says("a WORD of as many letters as it is wide (2: a WORD that is no row of this roof, another length)");
        for (int wide = 2; wide <= 8; wide++) {
            String head = "roof " + wide + " 2 ; row ";
            for (int many = 1; many <= 8; many++) {
                Trial.dueRoof(head + "f".repeat(many) + " ;", many == wide ? 1 : 2, many == wide ? 17 + wide : 15);
            }
        }
        Trial.dueRoof("roof 2 2 ; row ff ; row fff ;", 2, 24);
        Trial.dueRoof("roof 3 2 ; row ff", 2, 15);
        Trial.dueRoof("roof 2 2 ; row ;", 1, 15);
        Trial.dueRoof("roof 2 2 ; row 22 ;", 1, 15);
    }

    private static void theLettersOfTiles() {
        Trial.says("f, d, u, l, r, m, g, p, c (2: a WORD that is no row of this roof, another letter)");
        String tiles = "fdulrmgpc";
        for (char letter = 'a'; letter <= 'z'; letter++) {
            int tile = tiles.indexOf(letter);
            GutterNine g = new GutterNine();
            int got = Trial.roof(g, "roof 2 2 ; row f" + letter + " ; row " + letter + "f ;");
            Trial.due("letter " + letter, got, tile < 0 ? 2 + 16 * 15 : 0);
            Trial.due("tile(1, 0, 0) by " + letter, g.tile(1, 0, 0), Math.max(0, tile));
            Trial.due("tile(0, 1, 0) by " + letter, g.tile(0, 1, 0), Math.max(0, tile));
        }
        Trial.dueRoof("roof 2 2 ; row ff ; row fx ;", 2, 24);
        Trial.dueRoof("roof 3 2 ; row row ;", 2, 15);
        Trial.dueRoof("roof 4 2 ; row roof ;", 2, 15);
        Trial.dueRoof("roof 2 2 ; row FF ;", 1, 15);
    }

    private static void fromTheRidgeDown() {
        Trial.says("from the ridge down to the street");
        GutterNine g = Trial.of("fdu lrm gpc", "");
        for (int i = 0; i < 9; i++) {
            Trial.due("tile " + i, g.tile(i % 3, i / 3, 0), i);
        }
    }

    private static void anotherLineThanRoofFirst() {
        Trial.says("1 ... another line than roof first");
        for (String word : new String[] {"row ff ;", "person", "net 3;", "first 2", ";", "2", "("}) {
            Trial.dueRoof(word, 1, 0);
            Trial.dueRoof(" \n" + word, 1, 2);
        }
    }

    private static void roofAgain() {
        Trial.says("1 ... roof again");
        Trial.dueRoof("roof roof", 1, 5);
        Trial.dueRoof("roof 2 2 ; roof 2 2 ;", 1, 11);
        Trial.dueRoof("roof 2 2 ; row ff ; roof", 1, 20);
        Trial.dueRoof(SMALL + " " + SMALL, 1, 29);
    }

    private static void theEndIsOne() {
        Trial.says("the place (from 0) of a token, the end being one at the text's length");
        Trial.dueRoof("", 1, 0);
        Trial.dueRoof(" ", 1, 1);
        Trial.dueRoof(" \n \n ", 1, 5);
        Trial.dueRoof("roof", 1, 4);
        Trial.dueRoof("roof  \n", 1, 7);
        Trial.dueRoof("roof 2 2", 1, 8);
        Trial.dueRoof("roof 2 2 ; row ff ; row dd", 1, 26);
        Trial.dueRoof("roof 2 2 ; row ff ; row dd  ", 1, 28);
        Trial.dueYard("net", 1, 3);
        Trial.dueYard("net 3", 1, 5);
        Trial.dueYard("net 3 ; first  ", 1, 15);
        Trial.dueYard(blanks(999) + "x", 1, 999);
        Trial.dueYard("net" + blanks(997), 1, 1000);
    }

    private static void theFirstFromTheLeft() {
        Trial.says("FAULTS ... of the first token from the left that is wrong");
        Trial.dueRoof("roof 9 1 ; row x", 4, 5);
        Trial.dueRoof("roof 8 1 ; row x", 4, 7);
        Trial.dueRoof("roof 2 2 ; row fx ; row y ; row", 2, 15);
        Trial.dueRoof("roof 2 2 ; row ff ; row fff ; row", 2, 24);
        Trial.dueRoof("roof 2 2 row !", 1, 9);
        Trial.dueYard("net 13 ; net", 4, 4);
        Trial.dueYard("net 12 ; net 13", 3, 9);
        Trial.dueYard("window 8 8 reach 9", 4, 7);
        Trial.dueYard("person a arm 11 ; person a", 4, 13);
    }

    private static void wrongTheLeast() {
        Trial.says("FAULTS ... of the first token that is wrong the least");
        Trial.dueRoof("roof 2 2 ; row fffffffff", 1, 15);
        Trial.dueRoof("roof 12345 2", 1, 5);
        Trial.dueYard("person a arm 12345", 1, 13);
        Trial.dueYard("thing t ball of of", 1, 16);
        Trial.dueYard("temper ((((( 12345", 1, 13);
        Trial.dueYard("temper ((((( )", 1, 13);
        Trial.dueYard("temper ((((( ;", 1, 13);
        Trial.dueYard("temper ((((( reach", 1, 13);
        Trial.dueYard("temper ((((( 1234", 5, 13);
    }
}
