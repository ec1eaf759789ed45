import java.util.Arrays;
import java.util.NoSuchElementException;

/**
 * A ball in the gutter: what lies on a roof, who threw it there, and what it would take to bring it down.
 *
 * <p>The terms in capitals are those of the document.
 */
public final class GutterNine {
    public static final int NONE = -1;

    private static final int SIDE = 8;
    private static final int CELLS = 64;
    private static final int HAND = 64;
    private static final int OVER = 65;
    private static final int PIPED = 66;
    /** Inside, a THING in a pipe is at this + the pipe's CELL, so that each pipe is known by what is in it. */
    private static final int IN_PIPE = 128;

    private static final int MOST_PEOPLE = 4;
    private static final int MOST_THINGS = 8;
    private static final int MOST_SHOTS = 6;
    private static final int SLIPS = 9;
    private static final int MOST_DAYS = 100;
    private static final int MOST_SUMMER = 60;
    private static final int MOST_SEED = 9999;
    private static final int MOST_PRICE = 999;

    private static final int STREET = 0;
    private static final int BACK = 1;
    private static final int LEFT = 2;
    private static final int RIGHT = 3;

    private static final int MOSS = 5;
    private static final int GUTTER = 6;
    private static final int PIPE = 7;
    private static final int CHIMNEY = 8;

    private static final int BALL = 0;
    private static final int SHOE = 1;
    private static final int FRISBEE = 2;
    private static final int STICK = 3;

    /** In a column nothing is told of what is SEEN. */
    private static final int UNTOLD = -2;

    private static final int MISPLACED = 1;
    private static final int UNKNOWN = 2;
    private static final int AGAIN = 3;
    private static final int NUMBER_OFF = 4;
    private static final int TOO_MANY = 5;

    /** How far to the right and to the street each SLIP goes. */
    private static final int[] SLIP_ASIDE = {0, -1, 0, 1, -1, 1, -1, 0, 1};
    private static final int[] SLIP_DOWN = {0, -1, -1, -1, 0, 0, 1, 1, 1};

    private final Tape tape = new Tape();
    private final YardReader yardReader = new YardReader(tape);
    private final Scene scene = new Scene();
    private final Play play = new Play(new Roof(), new Yard(), scene);
    private final Chooser chooser = new Chooser(play);
    private final Waiting waiting = new Waiting();
    private final Past past = new Past();
    /** What the next ROOF and YARD are read into: a FAULT leaves the ones in use alone. */
    private Roof spareRoof = new Roof();
    private Yard spareYard = new Yard();

    public GutterNine() {
    }

    public int feed(long a, long b, long c) {
        tape.add(a);
        tape.add(b);
        tape.add(c);
        return tape.size;
    }

    public int roof() {
        boolean good = spareRoof.read(tape);
        tape.size = 0;
        if (!good) {
            return tape.fault;
        }
        Roof old = play.roof;
        play.roof = spareRoof;
        spareRoof = old;
        startAnew();
        return 0;
    }

    public int yard() {
        boolean good = yardReader.read(spareYard);
        tape.size = 0;
        if (!good) {
            return tape.fault;
        }
        Yard old = play.yard;
        play.yard = spareYard;
        spareYard = old;
        startAnew();
        return 0;
    }

    public int tile(int x, int y, int what) {
        if (!play.roof.has(x, y)) {
            return NONE;
        }
        int cell = y * SIDE + x;
        if (what == 0) {
            return play.roof.tiles[cell];
        }
        return what == 1 ? scene.who[cell] : NONE;
    }

    public int thing(int thing, int what) {
        if (!isThing(thing)) {
            return NONE;
        }
        switch (what) {
            case 0: return play.yard.kind[thing];
            case 1: return play.yard.owner[thing];
            case 2: return play.yard.worth[thing];
            case 3: return told(scene.place[thing]);
            case 4: return scene.thrower[thing];
            default: return NONE;
        }
    }

    public int arm(int person) {
        return isPerson(person) ? play.yard.arm[person] : NONE;
    }

    public int toss(int person, int thing, int x, int y, int slip) {
        if (!canThrow(person, thing, x, y) || slip < 0 || slip >= SLIPS) {
            return NONE;
        }
        past.remember(scene);
        scene.thrower[thing] = person;
        play.land(thing, x + SLIP_ASIDE[slip], y + SLIP_DOWN[slip]);
        return told(scene.place[thing]);
    }

    public int hose(int row) {
        if (!isRow(row)) {
            return NONE;
        }
        past.remember(scene);
        return play.washRow(row);
    }

    public int broom() {
        if (!play.yard.hasWindow()) {
            return NONE;
        }
        past.remember(scene);
        return play.sweep();
    }

    public int gale(int way) {
        if (way < STREET || way > RIGHT) {
            return NONE;
        }
        past.remember(scene);
        return play.blow(way);
    }

    public int days(int many) {
        if (many < 1 || many > MOST_DAYS) {
            return NONE;
        }
        past.remember(scene);
        for (int i = 0; i < many; i++) {
            play.passDay();
        }
        return scene.today;
    }

    public int fetch(int person) {
        if (!isPerson(person)) {
            return NONE;
        }
        past.remember(scene);
        return play.bringFromOver();
    }

    public boolean undo() {
        return past.stepBack(scene);
    }

    public int rolls(int x, int y) {
        if (!play.roof.canHold(x, y)) {
            return NONE;
        }
        int cell = y * SIDE + x;
        return scene.who[cell] >= 0 ? NONE : told(play.roof.rest(cell, CELLS, scene.who));
    }

    public int odds(int person, int thing, int x, int y, int what) {
        if (!canThrow(person, thing, x, y) || what < 0 || what > 4) {
            return NONE;
        }
        return chooser.chance(person, thing, y * SIDE + x, what);
    }

    public int gain(int person, int thing, int x, int y) throws NoSuchElementException {
        if (!canThrow(person, thing, x, y)) {
            throw new NoSuchElementException("no such throw");
        }
        return chooser.gainOf(person, thing, y * SIDE + x);
    }

    public int next(int what) throws NoSuchElementException {
        if (what < 0 || what > 3 || !anybodyCanThrow()) {
            throw new NoSuchElementException("no throw to choose");
        }
        chooser.choose();
        switch (what) {
            case 0: return chooser.bestGain;
            case 1: return chooser.bestPerson;
            case 2: return chooser.bestThing;
            default: return chooser.bestCell;
        }
    }

    public int plan(int throwsAhead) {
        if (throwsAhead == 1) {
            return chooser.meanOfOne();
        }
        return throwsAhead == 2 ? chooser.meanOfTwo() : NONE;
    }

    public int alone(int thing, int what) {
        if (!isThing(thing) || scene.place[thing] >= CELLS || !anybodyCanThrow()) {
            return NONE;
        }
        chooser.chooseAlone(thing);
        switch (what) {
            case 0: return chooser.bestGain;
            case 1: return chooser.bestPerson;
            case 2: return chooser.bestThing;
            default: return NONE;
        }
    }

    public int washed(int row, int what) {
        if (!isRow(row) || what < 0 || what > 1) {
            return NONE;
        }
        int where = what == 0 ? HAND : PIPED;
        int ahead = play.bitsAt(where);
        play.hold();
        play.washRow(row);
        int behind = play.bitsAt(where);
        play.release();
        return behind & ~ahead;
    }

    public int blown(int what) {
        if (what < 0 || what > 1) {
            return NONE;
        }
        int ahead = play.manyAt(HAND);
        int all = 0;
        int best = STREET;
        int most = 0;
        for (int way = STREET; way <= RIGHT; way++) {
            play.hold();
            play.blow(way);
            int brought = play.manyAt(HAND) - ahead;
            play.release();
            all += brought;
            if (brought > most) {
                most = brought;
                best = way;
            }
        }
        return what == 0 ? all : best;
    }

    public int await(int what) throws NoSuchElementException {
        if (what < 0 || what > 1) {
            throw new NoSuchElementException("no such answer");
        }
        int till = play.daysTillSaturdayPassed();
        if (what == 0) {
            return till;
        }
        int ahead = play.worthInHand() - scene.paid;
        play.hold();
        for (int i = 0; i < till; i++) {
            play.passDay();
        }
        int behind = play.worthInHand() - scene.paid;
        play.release();
        return behind - ahead;
    }

    public boolean see(int x, int kind) {
        if (x < 0 || x >= play.roof.wide || kind < UNTOLD || kind > STICK) {
            return false;
        }
        scene.seen[x] = kind;
        return true;
    }

    public int lies(int person, int thing, int x, int y, int what) {
        if (!canThrow(person, thing, x, y) || what < 0 || what > 2) {
            return NONE;
        }
        chooser.narrow(person, thing, y * SIDE + x);
        if (chooser.fitting == 0) {
            return NONE;
        }
        if (what == 0) {
            return chooser.fitting;
        }
        return what == 1 ? chooser.unlike : chooser.leastPlace;
    }

    public int pitch(int what) {
        if (what < 0 || what - 2 >= play.roof.wide) {
            return NONE;
        }
        if (what >= 2) {
            return play.lostFrom(what - 2);
        }
        int best = 0;
        int fewest = play.lostFrom(0);
        for (int x = 1; x < play.roof.wide; x++) {
            int lost = play.lostFrom(x);
            if (lost < fewest) {
                fewest = lost;
                best = x;
            }
        }
        return what == 0 ? fewest : best;
    }

    public int pays(int person, int law) {
        if (!isPerson(person) || law < 0 || law > 2) {
            return NONE;
        }
        int sum = 0;
        for (int i = 0; i < play.yard.things; i++) {
            boolean his = law == 1
                || (law == 0 && scene.thrower[i] == person)
                || (law == 2 && play.yard.owner[i] == person);
            if (his && scene.place[i] != HAND) {
                sum += play.yard.worth[i];
            }
        }
        return law == 1 && play.yard.people > 0 ? sum / play.yard.people : sum;
    }

    public int rests(int price, int what) {
        if (price < 0 || price > MOST_PRICE || what < NONE || play.yard.people == 0) {
            return NONE;
        }
        waiting.begin(play.yard, scene, price);
        return waiting.find(what);
    }

    public int otherwise(int x, int y, int place, int what) {
        if (!play.roof.canHold(x, y) || what < 0 || what > 1) {
            return NONE;
        }
        return play.roof.change(y * SIDE + x, place, what);
    }

    public int summer(int seed, int days, int what) {
        boolean good = seed >= 0 && seed <= MOST_SEED && days >= 1 && days <= MOST_SUMMER && what >= 0 && what <= 3;
        if (!good || play.yard.things == 0) {
            return NONE;
        }
        int ahead = scene.paid;
        play.hold();
        play.drawSummer(seed, days);
        int answer = scene.paid - ahead;
        if (what == 0) {
            answer = play.manyAt(HAND);
        } else if (what == 1) {
            answer = play.manyAt(OVER);
        } else if (what == 2) {
            answer = play.manyLost();
        }
        play.release();
        return answer;
    }

    public boolean mark(int mark, boolean back) {
        return back ? past.goBack(scene, mark) : past.lay(scene, mark);
    }

    public int count(int what) {
        switch (what) {
            case 0: return play.roof.wide;
            case 1: return play.roof.deep;
            case 2: return play.yard.people;
            case 3: return play.yard.things;
            case 4: return play.manyAt(HAND);
            case 5: return play.manyLost() - play.manyAt(PIPED);
            case 6: return play.manyAt(OVER);
            case 7: return play.manyAt(PIPED);
            case 8: return scene.today;
            case 9: return scene.paid;
            case 10: return past.steps;
            case 11: return scene.columnsSeen();
            case 12: return tape.size;
            default: return NONE;
        }
    }

    private void startAnew() {
        scene.clear();
        past.clear();
    }

    private boolean isPerson(int person) {
        return person >= 0 && person < play.yard.people;
    }

    private boolean isThing(int thing) {
        return thing >= 0 && thing < play.yard.things;
    }

    private boolean isRow(int row) {
        return row >= 0 && row < play.roof.deep;
    }

    private boolean canThrow(int person, int thing, int x, int y) {
        return isPerson(person) && isThing(thing) && play.roof.has(x, y) && scene.place[thing] == HAND;
    }

    private boolean anybodyCanThrow() {
        return play.yard.people > 0 && play.manyAt(HAND) > 0;
    }

    /** A place as it is told outside, where one pipe is like another. */
    private static int told(int place) {
        return place >= IN_PIPE ? PIPED : place;
    }

    private static int weight(int arm, int slip) {
        return slip == 0 ? 8 * arm : 10 - arm;
    }

    /** The TAPE, its tokens one by one, and the FAULT of the first wrong one. */
    private static final class Tape {
        static final int MOST = 1000;
        static final int END = 0;
        static final int NO_TOKEN = 1;
        static final int WORD = 2;
        static final int NUMBER = 3;
        static final int SIGN = 4;

        private static final String SIGNS = "()<=+-*;";
        private static final int MOST_LETTERS = 8;
        private static final int MOST_DIGITS = 4;

        private final char[] signs = new char[MOST];
        int size;
        int kind;
        int start;
        int end;
        int number;
        int taken;
        int fault;

        void add(long eight) {
            for (int shift = 56; shift >= 0; shift -= 8) {
                int sign = (int) (eight >>> shift) & 255;
                boolean good = sign == 10 || (sign >= 32 && sign <= 126);
                if (good && size < MOST) {
                    signs[size] = (char) sign;
                    size++;
                }
            }
        }

        void begin() {
            end = 0;
            fault = 0;
            advance();
        }

        void advance() {
            int from = end;
            while (from < size && (signs[from] == 10 || signs[from] == ' ')) {
                from++;
            }
            start = from;
            if (from >= size) {
                kind = END;
                end = size;
                return;
            }
            char first = signs[from];
            if (first >= 'a' && first <= 'z') {
                end = runEnd('a', 'z');
                kind = end - start <= MOST_LETTERS ? WORD : NO_TOKEN;
            } else if (first >= '0' && first <= '9') {
                end = runEnd('0', '9');
                kind = end - start <= MOST_DIGITS ? NUMBER : NO_TOKEN;
                readNumber();
            } else {
                end = from + 1;
                kind = SIGNS.indexOf(first) >= 0 ? SIGN : NO_TOKEN;
            }
        }

        private int runEnd(char low, char high) {
            int to = start;
            while (to < size && signs[to] >= low && signs[to] <= high) {
                to++;
            }
            return to;
        }

        private void readNumber() {
            if (kind != NUMBER) {
                return;
            }
            number = 0;
            for (int i = start; i < end; i++) {
                number = number * 10 + signs[i] - '0';
            }
        }

        boolean isSign(char sign) {
            return kind == SIGN && signs[start] == sign;
        }

        boolean isWord(String word) {
            if (kind != WORD || end - start != word.length()) {
                return false;
            }
            for (int i = start; i < end; i++) {
                if (signs[i] != word.charAt(i - start)) {
                    return false;
                }
            }
            return true;
        }

        /** A WORD as one number, unlike for unlike WORDS: 8 letters fit into a long. */
        long packed() {
            long word = 0;
            if (kind == WORD) {
                for (int i = start; i < end; i++) {
                    word = word << 8 | signs[i];
                }
            }
            return word;
        }

        char letter(int i) {
            return i >= 0 && i < end - start ? signs[start + i] : ' ';
        }

        boolean fail(int faultKind) {
            fault = faultKind + 16 * start;
            return false;
        }

        boolean takeWord(String word) {
            if (!isWord(word)) {
                return fail(MISPLACED);
            }
            advance();
            return true;
        }

        boolean takeSemicolon() {
            if (!isSign(';')) {
                return fail(MISPLACED);
            }
            advance();
            return true;
        }

        /** Takes a NUMBER of a range; it is found in taken then. */
        boolean takeNumber(int least, int most) {
            if (kind != NUMBER) {
                return fail(MISPLACED);
            }
            if (number < least || number > most) {
                return fail(NUMBER_OFF);
            }
            taken = number;
            advance();
            return true;
        }
    }

    /** The ROOF: its tiles, and where what moves on it comes to. */
    private static final class Roof {
        private static final int LEAST = 2;
        private static final String TILES = "fdulrmgpc";

        int wide = LEAST;
        int deep = LEAST;
        final int[] tiles = new int[CELLS];
        /** Who is on the CELLS of a roof without THINGS: nobody. */
        final int[] bare = new int[CELLS];

        Roof() {
            Arrays.fill(bare, NONE);
        }

        boolean has(int x, int y) {
            return x >= 0 && x < wide && y >= 0 && y < deep;
        }

        boolean canHold(int x, int y) {
            return has(x, y) && tiles[y * SIDE + x] < PIPE;
        }

        boolean read(Tape tape) {
            tape.begin();
            if (!tape.takeWord("roof") || !tape.takeNumber(LEAST, SIDE)) {
                return false;
            }
            wide = tape.taken;
            if (!tape.takeNumber(LEAST, SIDE)) {
                return false;
            }
            deep = tape.taken;
            if (!tape.takeSemicolon()) {
                return false;
            }
            for (int y = 0; y < deep; y++) {
                if (!tape.takeWord("row") || !takeRow(tape, y) || !tape.takeSemicolon()) {
                    return false;
                }
            }
            return tape.kind == Tape.END || tape.fail(tape.isWord("row") ? TOO_MANY : MISPLACED);
        }

        private boolean takeRow(Tape tape, int y) {
            if (tape.kind != Tape.WORD) {
                return tape.fail(MISPLACED);
            }
            if (tape.end - tape.start != wide) {
                return tape.fail(UNKNOWN);
            }
            for (int x = 0; x < wide; x++) {
                int tile = TILES.indexOf(tape.letter(x));
                if (tile < 0) {
                    return tape.fail(UNKNOWN);
                }
                tiles[y * SIDE + x] = tile;
            }
            tape.advance();
            return true;
        }

        /** Where a THING is that COMES TO the next CELL to a way; its own CELL: it stays. */
        int step(int cell, int way, int[] who) {
            int x = cell % SIDE;
            int y = cell / SIDE;
            if (way == STREET) {
                y++;
            } else if (way == BACK) {
                y--;
            } else {
                x += way == LEFT ? -1 : 1;
            }
            if (y < 0) {
                return OVER;
            }
            if (x < 0 || x >= wide || y >= deep) {
                return HAND;
            }
            int next = y * SIDE + x;
            if (tiles[next] == PIPE) {
                return who[next] < 0 ? IN_PIPE + next : HAND;
            }
            return tiles[next] == CHIMNEY || who[next] >= 0 ? cell : next;
        }

        /** Where what comes down on a CELL, or beside the roof, is; whether a THING lies there does not count. */
        int landing(int x, int y, int[] who) {
            if (x < 0 || x >= wide || y >= deep) {
                return HAND;
            }
            if (y < 0) {
                return OVER;
            }
            int cell = y * SIDE + x;
            if (tiles[cell] == CHIMNEY) {
                return HAND;
            }
            if (tiles[cell] == PIPE) {
                return who[cell] < 0 ? IN_PIPE + cell : HAND;
            }
            return cell;
        }

        /** Where a THING is that ROLLS from a CELL, so many steps at most. */
        int rest(int cell, int steps, int[] who) {
            long been = 1L << cell;
            int at = cell;
            for (int i = 0; i < steps; i++) {
                // The tiles that slope stand behind the flat one in the order of the ways.
                int way = tiles[at] - 1;
                if (way < STREET || way > RIGHT) {
                    return at;
                }
                int next = step(at, way, who);
                if (next >= CELLS) {
                    return next;
                }
                if ((been >>> next & 1L) != 0) {
                    return at;
                }
                been |= 1L << next;
                at = next;
            }
            return at;
        }

        /** OTHERWISE: how many changes tell that a ball came from a CELL to a place (0), or the first of them (1). */
        int change(int from, int place, int what) {
            if (told(rest(from, CELLS, bare)) == place) {
                return what == 0 ? 0 : NONE;
            }
            int many = 0;
            int first = NONE;
            for (int cell = 0; cell < CELLS; cell++) {
                int old = tiles[cell];
                if (!has(cell % SIDE, cell / SIDE) || old > MOSS) {
                    continue;
                }
                for (int tile = 0; tile <= MOSS; tile++) {
                    tiles[cell] = tile;
                    if (told(rest(from, CELLS, bare)) == place) {
                        many++;
                        first = first == NONE ? cell * SIDE + tile : first;
                    }
                }
                tiles[cell] = old;
            }
            return what == 0 && many > 0 ? many : first;
        }
    }

    /** The E of a law, told the other way round: each sign behind what it joins. */
    private static final class Law {
        /** Codes below this are NUMBERS. */
        static final int LOST = 10000;
        static final int VALUE = 10001;
        static final int DAYS = 10002;
        static final int NOT = 10003;
        static final int AND = 10004;
        static final int OR = 10005;
        static final int LESS = 10006;
        static final int SAME = 10007;
        static final int PLUS = 10008;
        static final int MINUS = 10009;
        static final int TIMES = 10010;
        static final int OPEN = 10011;
        static final int CLOSE = 10012;

        /** Far above what brackets within 5 can leave waiting. */
        private static final int DEPTH = 64;

        private final int[] codes = new int[Tape.MOST];
        private final int[] stack = new int[DEPTH];
        private int size;

        void become(int code) {
            size = 0;
            add(code);
        }

        void clear() {
            size = 0;
        }

        void add(int code) {
            if (size < codes.length) {
                codes[size] = code;
                size++;
            }
        }

        int of(int lost, int value, int days) {
            int top = 0;
            for (int i = 0; i < size; i++) {
                int code = codes[i];
                if (code < NOT) {
                    if (top < DEPTH) {
                        stack[top] = fact(code, lost, value, days);
                        top++;
                    }
                } else if (code == NOT) {
                    if (top >= 1) {
                        stack[top - 1] = bit(stack[top - 1] == 0);
                    }
                } else if (top >= 2) {
                    top--;
                    stack[top - 1] = join(code, stack[top - 1], stack[top]);
                }
            }
            return stack[0];
        }

        private static int fact(int code, int lost, int value, int days) {
            switch (code) {
                case LOST: return lost;
                case VALUE: return value;
                case DAYS: return days;
                default: return code;
            }
        }

        private static int join(int code, int a, int b) {
            switch (code) {
                case AND: return bit(a != 0 && b != 0);
                case OR: return bit(a != 0 || b != 0);
                case LESS: return bit(a < b);
                case SAME: return bit(a == b);
                case PLUS: return a + b;
                case MINUS: return a - b;
                default: return a * b;
            }
        }

        private static int bit(boolean so) {
            return so ? 1 : 0;
        }
    }

    /** Reads an E into a Law: a sign waits till what it joins is there. */
    private static final class LawReader {
        private static final int NO_CODE = -1;
        private static final int DEEPEST = 5;
        private static final int DEPTH = 64;

        private static final int OF_BRACKETS = 0;
        private static final int OF_WORDS = 1;
        private static final int OF_TESTS = 2;
        private static final int OF_SUMS = 3;
        private static final int OF_PRODUCTS = 4;
        private static final int OF_NOT = 5;

        private final Tape tape;
        private final int[] signs = new int[DEPTH];
        private int many;
        private int brackets;
        /** How many not and ( ) the next PART lies within. */
        private int within;
        private boolean wantsPart;

        LawReader(Tape tape) {
            this.tape = tape;
        }

        boolean read(Law law) {
            law.clear();
            many = 0;
            brackets = 0;
            within = 0;
            wantsPart = true;
            for (int i = 0; i <= Tape.MOST; i++) {
                int code = wantsPart ? partCode() : joinCode();
                if (code == NO_CODE && !wantsPart && brackets == 0) {
                    release(law, OF_WORDS);
                    return true;
                }
                if (code == NO_CODE) {
                    return tape.fail(MISPLACED);
                }
                boolean good = wantsPart ? takePart(law, code) : takeJoin(law, code);
                if (!good) {
                    return false;
                }
                tape.advance();
            }
            return tape.fail(MISPLACED);
        }

        private int partCode() {
            if (tape.kind == Tape.NUMBER) {
                return tape.number;
            }
            if (tape.isWord("lost")) {
                return Law.LOST;
            }
            if (tape.isWord("value")) {
                return Law.VALUE;
            }
            if (tape.isWord("days")) {
                return Law.DAYS;
            }
            if (tape.isWord("not")) {
                return Law.NOT;
            }
            return tape.isSign('(') ? Law.OPEN : NO_CODE;
        }

        private int joinCode() {
            if (tape.isWord("and")) {
                return Law.AND;
            }
            if (tape.isWord("or")) {
                return Law.OR;
            }
            if (tape.isSign('<')) {
                return Law.LESS;
            }
            if (tape.isSign('=')) {
                return Law.SAME;
            }
            if (tape.isSign('+')) {
                return Law.PLUS;
            }
            if (tape.isSign('-')) {
                return Law.MINUS;
            }
            if (tape.isSign('*')) {
                return Law.TIMES;
            }
            return tape.isSign(')') ? Law.CLOSE : NO_CODE;
        }

        private boolean takePart(Law law, int code) {
            if (within >= DEEPEST) {
                return tape.fail(TOO_MANY);
            }
            if (code == Law.NOT || code == Law.OPEN) {
                within++;
                brackets += code == Law.OPEN ? 1 : 0;
                push(code);
                return true;
            }
            law.add(code);
            endPart(law);
            return true;
        }

        private boolean takeJoin(Law law, int code) {
            if (code == Law.CLOSE && brackets == 0) {
                return tape.fail(MISPLACED);
            }
            if (code == Law.CLOSE) {
                release(law, OF_WORDS);
                pop();
                brackets--;
                within--;
                endPart(law);
                return true;
            }
            int strength = strength(code);
            // A TEST has one < or = alone: what waits of that strength is wrong, not joined.
            release(law, strength == OF_TESTS ? OF_SUMS : strength);
            if (strength == OF_TESTS && topStrength() == OF_TESTS) {
                return tape.fail(MISPLACED);
            }
            push(code);
            wantsPart = true;
            return true;
        }

        /** A PART is there: each not right ahead of it is done with. */
        private void endPart(Law law) {
            wantsPart = false;
            for (int i = 0; i < DEEPEST && topStrength() == OF_NOT; i++) {
                law.add(Law.NOT);
                pop();
                within--;
            }
        }

        private void release(Law law, int weakest) {
            for (int i = 0; i < DEPTH && topStrength() >= weakest; i++) {
                law.add(signs[many - 1]);
                pop();
            }
        }

        private void push(int code) {
            if (many < DEPTH) {
                signs[many] = code;
                many++;
            }
        }

        private void pop() {
            many = Math.max(0, many - 1);
        }

        private int topStrength() {
            return many == 0 ? OF_BRACKETS : strength(signs[many - 1]);
        }

        private static int strength(int code) {
            switch (code) {
                case Law.AND: return OF_WORDS;
                case Law.OR: return OF_WORDS;
                case Law.LESS: return OF_TESTS;
                case Law.SAME: return OF_TESTS;
                case Law.PLUS: return OF_SUMS;
                case Law.MINUS: return OF_SUMS;
                case Law.TIMES: return OF_PRODUCTS;
                case Law.NOT: return OF_NOT;
                default: return OF_BRACKETS;
            }
        }
    }

    /** The YARD: PEOPLE, THINGS, shots and laws, as told. */
    private static final class Yard {
        int people;
        final int[] arm = new int[MOST_PEOPLE];
        final long[] personName = new long[MOST_PEOPLE];
        int things;
        final int[] kind = new int[MOST_THINGS];
        final int[] owner = new int[MOST_THINGS];
        final int[] worth = new int[MOST_THINGS];
        final long[] thingName = new long[MOST_THINGS];
        int shots;
        /** How many CELLS to the right a shot goes; to the left it is below 0. */
        final int[] shotAside = new int[MOST_SHOTS];
        final int[] shotUp = new int[MOST_SHOTS];
        final int[] shotTimes = new int[MOST_SHOTS];
        int net;
        int windowX;
        int windowY;
        int reach;
        int first;
        final Law temper = new Law();
        final Law damage = new Law();

        Yard() {
            clear();
        }

        void clear() {
            people = 0;
            things = 0;
            shots = 0;
            net = NONE;
            windowX = NONE;
            windowY = NONE;
            reach = NONE;
            first = 0;
            temper.become(Law.LOST);
            damage.become(1);
        }

        boolean hasWindow() {
            return reach != NONE;
        }

        int personNamed(long name) {
            for (int i = 0; i < people; i++) {
                if (personName[i] == name) {
                    return i;
                }
            }
            return NONE;
        }

        boolean hasName(long name) {
            for (int i = 0; i < things; i++) {
                if (thingName[i] == name) {
                    return true;
                }
            }
            return personNamed(name) != NONE;
        }
    }

    /** Reads the TAPE as a YARD. */
    private static final class YardReader {
        private static final int NET = 1;
        private static final int WINDOW = 2;
        private static final int FIRST = 4;
        private static final int TEMPER = 8;
        private static final int DAMAGE = 16;

        private final Tape tape;
        private final LawReader lawReader;
        /** Which lines that stand once each are there already. */
        private int lines;

        YardReader(Tape tape) {
            this.tape = tape;
            this.lawReader = new LawReader(tape);
        }

        boolean read(Yard yard) {
            yard.clear();
            lines = 0;
            tape.begin();
            for (int i = 0; i <= Tape.MOST && tape.kind != Tape.END; i++) {
                if (!takeLine(yard) || !tape.takeSemicolon()) {
                    return false;
                }
            }
            return true;
        }

        private boolean takeLine(Yard yard) {
            if (tape.isWord("person")) {
                return takePerson(yard);
            }
            if (tape.isWord("thing")) {
                return takeThing(yard);
            }
            if (tape.isWord("shot")) {
                return takeShot(yard);
            }
            if (tape.isWord("net")) {
                return takeOnce(NET) && takeNet(yard);
            }
            if (tape.isWord("window")) {
                return takeOnce(WINDOW) && takeWindow(yard);
            }
            if (tape.isWord("first")) {
                return takeOnce(FIRST) && takeFirst(yard);
            }
            if (tape.isWord("temper")) {
                return takeOnce(TEMPER) && lawReader.read(yard.temper);
            }
            if (tape.isWord("damage")) {
                return takeOnce(DAMAGE) && lawReader.read(yard.damage);
            }
            return tape.fail(MISPLACED);
        }

        private boolean takeOnce(int line) {
            if ((lines & line) != 0) {
                return tape.fail(AGAIN);
            }
            lines |= line;
            tape.advance();
            return true;
        }

        private boolean takePerson(Yard yard) {
            int i = yard.people;
            if (i >= MOST_PEOPLE) {
                return tape.fail(TOO_MANY);
            }
            tape.advance();
            long name = tape.packed();
            if (!takeNewName(yard) || !tape.takeWord("arm") || !tape.takeNumber(0, 10)) {
                return false;
            }
            yard.personName[i] = name;
            yard.arm[i] = tape.taken;
            yard.people++;
            return true;
        }

        private boolean takeThing(Yard yard) {
            int i = yard.things;
            if (i >= MOST_THINGS) {
                return tape.fail(TOO_MANY);
            }
            tape.advance();
            long name = tape.packed();
            if (!takeNewName(yard)) {
                return false;
            }
            int kind = kindHere();
            if (kind == NONE) {
                return tape.fail(MISPLACED);
            }
            tape.advance();
            if (!tape.takeWord("of")) {
                return false;
            }
            int owner = yard.personNamed(tape.packed());
            if (!takeOwner(owner) || !tape.takeWord("worth") || !tape.takeNumber(0, 99)) {
                return false;
            }
            yard.thingName[i] = name;
            yard.kind[i] = kind;
            yard.owner[i] = owner;
            yard.worth[i] = tape.taken;
            yard.things++;
            return true;
        }

        private boolean takeShot(Yard yard) {
            int i = yard.shots;
            if (i >= MOST_SHOTS) {
                return tape.fail(TOO_MANY);
            }
            tape.advance();
            boolean left = tape.isWord("left");
            if (!left && !tape.isWord("right")) {
                return tape.fail(MISPLACED);
            }
            tape.advance();
            if (!tape.takeNumber(0, SIDE)) {
                return false;
            }
            yard.shotAside[i] = left ? -tape.taken : tape.taken;
            if (!tape.takeWord("up") || !tape.takeNumber(1, 12)) {
                return false;
            }
            yard.shotUp[i] = tape.taken;
            if (!tape.takeWord("times") || !tape.takeNumber(1, 99)) {
                return false;
            }
            yard.shotTimes[i] = tape.taken;
            yard.shots++;
            return true;
        }

        private boolean takeNet(Yard yard) {
            if (!tape.takeNumber(0, 12)) {
                return false;
            }
            yard.net = tape.taken;
            return true;
        }

        private boolean takeWindow(Yard yard) {
            if (!tape.takeNumber(0, 7)) {
                return false;
            }
            yard.windowX = tape.taken;
            if (!tape.takeNumber(0, 7)) {
                return false;
            }
            yard.windowY = tape.taken;
            if (!tape.takeWord("reach") || !tape.takeNumber(0, SIDE)) {
                return false;
            }
            yard.reach = tape.taken;
            return true;
        }

        private boolean takeFirst(Yard yard) {
            if (!tape.takeNumber(0, 6)) {
                return false;
            }
            yard.first = tape.taken;
            return true;
        }

        private boolean takeNewName(Yard yard) {
            if (!isName()) {
                return tape.fail(MISPLACED);
            }
            if (yard.hasName(tape.packed())) {
                return tape.fail(AGAIN);
            }
            tape.advance();
            return true;
        }

        private boolean takeOwner(int owner) {
            if (!isName()) {
                return tape.fail(MISPLACED);
            }
            if (owner == NONE) {
                return tape.fail(UNKNOWN);
            }
            tape.advance();
            return true;
        }

        private int kindHere() {
            if (tape.isWord("ball")) {
                return BALL;
            }
            if (tape.isWord("shoe")) {
                return SHOE;
            }
            if (tape.isWord("frisbee")) {
                return FRISBEE;
            }
            return tape.isWord("stick") ? STICK : NONE;
        }

        /** Whether a WORD is none of those that tell a YARD. */
        private boolean isName() {
            boolean ofLines = tape.isWord("person") || tape.isWord("thing") || tape.isWord("shot")
                || tape.isWord("net") || tape.isWord("window") || tape.isWord("first")
                || tape.isWord("temper") || tape.isWord("damage");
            boolean within = tape.isWord("arm") || tape.isWord("of") || tape.isWord("worth")
                || tape.isWord("left") || tape.isWord("right") || tape.isWord("up")
                || tape.isWord("times") || tape.isWord("reach");
            boolean ofLaws = tape.isWord("not") || tape.isWord("and") || tape.isWord("or");
            boolean ofKinds = tape.isWord("ball") || tape.isWord("shoe") || tape.isWord("frisbee")
                || tape.isWord("stick");
            return tape.kind == Tape.WORD && !ofLines && !within && !ofLaws && !ofKinds;
        }
    }

    /** Where THINGS are, who threw them, the day, what is paid, what is SEEN. */
    private static final class Scene {
        /** How long a row is that holds all this. */
        static final int ROW = 26;
        private static final int THROWERS = 8;
        private static final int SEEN = 16;
        private static final int TODAY = 24;
        private static final int PAID = 25;

        final int[] place = new int[MOST_THINGS];
        final int[] thrower = new int[MOST_THINGS];
        /** The THING on each CELL or in its pipe. */
        final int[] who = new int[CELLS];
        final int[] seen = new int[SIDE];
        int today;
        int paid;

        Scene() {
            clear();
        }

        void clear() {
            Arrays.fill(place, HAND);
            Arrays.fill(thrower, NONE);
            Arrays.fill(who, NONE);
            Arrays.fill(seen, UNTOLD);
            today = 0;
            paid = 0;
        }

        void put(int thing, int where) {
            int left = cellOf(place[thing]);
            if (left != NONE) {
                who[left] = NONE;
            }
            place[thing] = where;
            int taken = cellOf(where);
            if (taken != NONE) {
                who[taken] = thing;
            }
        }

        private static int cellOf(int where) {
            if (where >= IN_PIPE) {
                return where - IN_PIPE;
            }
            return where < CELLS ? where : NONE;
        }

        void save(int[] rows, int row) {
            int from = row * ROW;
            System.arraycopy(place, 0, rows, from, MOST_THINGS);
            System.arraycopy(thrower, 0, rows, from + THROWERS, MOST_THINGS);
            System.arraycopy(seen, 0, rows, from + SEEN, SIDE);
            rows[from + TODAY] = today;
            rows[from + PAID] = paid;
        }

        /** All but what is SEEN: what is done by hand does not change that. */
        void load(int[] rows, int row) {
            int from = row * ROW;
            System.arraycopy(rows, from, place, 0, MOST_THINGS);
            System.arraycopy(rows, from + THROWERS, thrower, 0, MOST_THINGS);
            today = rows[from + TODAY];
            paid = rows[from + PAID];
            Arrays.fill(who, NONE);
            for (int i = 0; i < MOST_THINGS; i++) {
                int cell = cellOf(place[i]);
                if (cell != NONE) {
                    who[cell] = i;
                }
            }
        }

        void loadSeen(int[] rows, int row) {
            System.arraycopy(rows, row * ROW + SEEN, seen, 0, SIDE);
        }

        int columnsSeen() {
            int many = 0;
            for (int x = 0; x < SIDE; x++) {
                many += seen[x] == UNTOLD ? 0 : 1;
            }
            return many;
        }
    }

    /** What can be undone, and the MARKS. */
    private static final class Past {
        private static final int MOST_STEPS = 16;
        private static final int MARKS = 4;

        private final int[] stepRows = new int[MOST_STEPS * Scene.ROW];
        private final int[] markRows = new int[MARKS * Scene.ROW];
        /** Bits of the MARKS that are laid. */
        private int laid;
        /** The row that the next step is held in; behind the last one comes the first again. */
        private int free;
        int steps;

        void clear() {
            laid = 0;
            steps = 0;
        }

        void remember(Scene scene) {
            scene.save(stepRows, free);
            free = (free + 1) % MOST_STEPS;
            steps = Math.min(MOST_STEPS, steps + 1);
        }

        boolean stepBack(Scene scene) {
            if (steps == 0) {
                return false;
            }
            steps--;
            free = (free + MOST_STEPS - 1) % MOST_STEPS;
            scene.load(stepRows, free);
            return true;
        }

        boolean lay(Scene scene, int mark) {
            if (mark < 0 || mark >= MARKS) {
                return false;
            }
            scene.save(markRows, mark);
            laid |= 1 << mark;
            return true;
        }

        boolean goBack(Scene scene, int mark) {
            if (mark < 0 || mark >= MARKS || (laid >> mark & 1) == 0) {
                return false;
            }
            scene.load(markRows, mark);
            scene.loadSeen(markRows, mark);
            steps = 0;
            return true;
        }
    }

    /** What can be done to the THINGS on a ROOF by the PEOPLE of a YARD, the weather and father. */
    private static final class Play {
        private static final int WEEK = 7;
        private static final int SATURDAY = 5;
        private static final int MOST_PAID = 99;
        private static final int GALE_EACH = 10;

        Roof roof;
        Yard yard;
        final Scene scene;
        private final int[] held = new int[Scene.ROW];
        /** The number that DRAWS are made of. */
        private long seed;

        Play(Roof roof, Yard yard, Scene scene) {
            this.roof = roof;
            this.yard = yard;
            this.scene = scene;
        }

        /** Keeps all as it is, till release. */
        void hold() {
            scene.save(held, 0);
        }

        void release() {
            scene.load(held, 0);
        }

        /** A THING in hand comes down on a CELL or beside the roof: the THING that it hit there, or NONE. */
        int land(int thing, int x, int y) {
            int at = roof.landing(x, y, scene.who);
            int hit = at < CELLS ? scene.who[at] : NONE;
            if (hit != NONE) {
                int pushed = pushed(at, yard.kind[thing] == STICK ? 2 : 1);
                if (pushed != at) {
                    moveOn(hit, pushed);
                }
                at = scene.who[at] >= 0 ? HAND : at;
            }
            if (at < CELLS) {
                at = roof.rest(at, stepsOf(thing), scene.who);
            }
            scene.put(thing, at);
            return hit;
        }

        /** As it was ahead of a THROW that landed on a CELL and hit a THING there, or NONE. */
        void takeBack(int thing, int hit, int x, int y) {
            scene.put(thing, HAND);
            if (hit != NONE) {
                scene.put(hit, y * SIDE + x);
            }
        }

        /** Where a THING on a CELL is that is KNOCKED so many steps to the street. */
        private int pushed(int cell, int steps) {
            int at = cell;
            for (int i = 0; i < steps && at < CELLS; i++) {
                int next = roof.step(at, STREET, scene.who);
                if (next == at) {
                    break;
                }
                at = next;
            }
            return at;
        }

        /** A THING comes to another place, and ROLLS from there if that is a CELL. */
        private void moveOn(int thing, int at) {
            scene.put(thing, at);
            if (at < CELLS) {
                scene.put(thing, roof.rest(at, stepsOf(thing), scene.who));
            }
        }

        private int stepsOf(int thing) {
            int kind = yard.kind[thing];
            if (kind == BALL) {
                return CELLS;
            }
            return kind == FRISBEE ? 1 : 0;
        }

        int washRow(int row) {
            int moved = 0;
            // What is washed comes nearer to its pipe: it is not met again further away.
            for (int away = 1; away < SIDE; away++) {
                for (int x = 0; x < roof.wide; x++) {
                    int cell = row * SIDE + x;
                    int pipe = nearestPipe(x, row);
                    boolean there = scene.who[cell] >= 0 && roof.tiles[cell] == GUTTER;
                    if (there && pipe != NONE && Math.abs(pipe - x) == away && wash(cell, row * SIDE + pipe)) {
                        moved++;
                    }
                }
            }
            return moved;
        }

        private int nearestPipe(int x, int row) {
            int nearest = NONE;
            for (int i = 0; i < roof.wide; i++) {
                boolean nearer = nearest == NONE || Math.abs(i - x) < Math.abs(nearest - x);
                if (roof.tiles[row * SIDE + i] == PIPE && nearer) {
                    nearest = i;
                }
            }
            return nearest;
        }

        private boolean wash(int cell, int pipe) {
            int thing = scene.who[cell];
            int way = pipe < cell ? LEFT : RIGHT;
            int at = cell;
            for (int i = 0; i < SIDE && at < CELLS; i++) {
                int next = roof.step(at, way, scene.who);
                if (next == at || (next < CELLS && roof.tiles[next] != GUTTER)) {
                    break;
                }
                at = next;
            }
            scene.put(thing, at);
            return at != cell;
        }

        int sweep() {
            int brought = 0;
            for (int i = 0; i < yard.things; i++) {
                int cell = scene.place[i];
                if (cell < CELLS && away(cell) <= yard.reach) {
                    scene.put(i, HAND);
                    brought |= 1 << i;
                }
            }
            return brought;
        }

        private int away(int cell) {
            return Math.abs(cell % SIDE - yard.windowX) + Math.abs(cell / SIDE - yard.windowY);
        }

        int blow(int way) {
            int moved = 0;
            for (int i = 0; i < yard.things; i++) {
                int cell = scene.place[i];
                if (cell >= CELLS || !isLight(i) || isSheltered(cell)) {
                    continue;
                }
                int next = roof.step(cell, way, scene.who);
                if (next != cell) {
                    moveOn(i, next);
                }
                // The ROLL is part of the GALE: what rolled back to its CELL was not moved.
                moved += scene.place[i] == cell ? 0 : 1;
            }
            return moved;
        }

        private boolean isLight(int thing) {
            return yard.kind[thing] == BALL || yard.kind[thing] == FRISBEE;
        }

        private boolean isSheltered(int cell) {
            return roof.tiles[cell] == MOSS || roof.tiles[cell] == GUTTER;
        }

        void passDay() {
            if (manyAt(PIPED) > 0) {
                scene.paid += due(yard.damage);
            }
            if (daysTillSaturdayPassed() == 1 && manyLost() > 0) {
                scene.paid += due(yard.temper);
                bringLost();
            }
            scene.today++;
        }

        int daysTillSaturdayPassed() {
            int day = (yard.first + scene.today) % WEEK;
            return (SATURDAY + WEEK - day) % WEEK + 1;
        }

        private int due(Law law) {
            int paid = law.of(manyLost(), worthLost(), scene.today);
            return Math.max(0, Math.min(MOST_PAID, paid));
        }

        private void bringLost() {
            for (int i = 0; i < yard.things; i++) {
                if (isLost(i)) {
                    scene.put(i, HAND);
                }
            }
        }

        int bringFromOver() {
            int brought = 0;
            for (int i = 0; i < yard.things; i++) {
                if (scene.place[i] == OVER) {
                    scene.put(i, HAND);
                    brought++;
                }
            }
            return brought;
        }

        private boolean isLost(int thing) {
            return scene.place[thing] != HAND && scene.place[thing] != OVER;
        }

        int manyLost() {
            int many = 0;
            for (int i = 0; i < yard.things; i++) {
                many += isLost(i) ? 1 : 0;
            }
            return many;
        }

        private int worthLost() {
            int sum = 0;
            for (int i = 0; i < yard.things; i++) {
                sum += isLost(i) ? yard.worth[i] : 0;
            }
            return sum;
        }

        int worthInHand() {
            int sum = 0;
            for (int i = 0; i < yard.things; i++) {
                sum += scene.place[i] == HAND ? yard.worth[i] : 0;
            }
            return sum;
        }

        int bitsAt(int where) {
            int bits = 0;
            for (int i = 0; i < yard.things; i++) {
                if (told(scene.place[i]) == where) {
                    bits |= 1 << i;
                }
            }
            return bits;
        }

        int manyAt(int where) {
            return Integer.bitCount(bitsAt(where));
        }

        /** How many shots are lost with the pitch at a column. */
        int lostFrom(int column) {
            int lost = 0;
            for (int i = 0; i < yard.shots; i++) {
                if (yard.net != NONE && yard.shotUp[i] > yard.net) {
                    continue;
                }
                int at = roof.landing(column + yard.shotAside[i], roof.deep - yard.shotUp[i], roof.bare);
                if (at < CELLS) {
                    at = roof.rest(at, CELLS, roof.bare);
                }
                lost += at == HAND ? 0 : yard.shotTimes[i];
            }
            return lost;
        }

        void drawSummer(int from, int days) {
            seed = from;
            for (int day = 1; day <= days; day++) {
                int thing = draw(yard.things);
                if (scene.place[thing] == HAND) {
                    drawThrow(thing);
                }
                if (day % GALE_EACH == 0) {
                    blow(draw(4));
                }
                passDay();
            }
        }

        private void drawThrow(int thing) {
            int cell = draw(roof.wide * roof.deep);
            int drawn = draw(80);
            int arm = yard.arm[yard.owner[thing]];
            int slip = 0;
            if (drawn >= 8 * arm && arm < 10) {
                slip = 1 + (drawn - 8 * arm) / (10 - arm);
            }
            scene.thrower[thing] = yard.owner[thing];
            land(thing, cell % roof.wide + SLIP_ASIDE[slip], cell / roof.wide + SLIP_DOWN[slip]);
        }

        private int draw(int below) {
            seed = (seed * 1103515245L + 12345L) % 2147483648L;
            return below > 0 ? (int) (seed / 65536L % below) : 0;
        }
    }

    /** What a throw would bring: each is tried and taken back. */
    private static final class Chooser {
        private static final int FRAME = SIDE + 2;
        private static final int ALL = 80;
        /** Below every GAIN: a THROW loses no more than the worth of one THING, and that is 99 at most. */
        private static final int NO_GAIN = -100 * ALL;

        private final Play play;
        private final Scene scene;
        /** What a THING brings that comes down on a CELL or right beside the roof. */
        private final int[] brought = new int[FRAME * FRAME];
        private final int[] gains = new int[MOST_PEOPLE];
        private final int[] thingOf = new int[MOST_PEOPLE];
        private final int[] cellOf = new int[MOST_PEOPLE];
        private final int[] places = new int[SLIPS];
        int bestGain;
        int bestPerson;
        int bestThing;
        int bestCell;
        /** Of LIES: the eightieths, how many places, the least of them. */
        int fitting;
        int unlike;
        int leastPlace;

        Chooser(Play play) {
            this.play = play;
            this.scene = play.scene;
        }

        int chance(int person, int thing, int cell, int what) {
            int sum = 0;
            for (int slip = 0; slip < SLIPS; slip++) {
                int x = cell % SIDE + SLIP_ASIDE[slip];
                int y = cell / SIDE + SLIP_DOWN[slip];
                int hit = play.land(thing, x, y);
                if (isSo(thing, hit, what)) {
                    sum += weight(play.yard.arm[person], slip);
                }
                play.takeBack(thing, hit, x, y);
            }
            return sum;
        }

        private boolean isSo(int thing, int hit, int what) {
            int at = told(scene.place[thing]);
            switch (what) {
                case 0: return hit != NONE && scene.place[hit] == HAND;
                case 1: return at == HAND;
                case 2: return at < CELLS;
                case 3: return at == OVER;
                default: return at == PIPED;
            }
        }

        int gainOf(int person, int thing, int cell) {
            int sum = 0;
            for (int slip = 0; slip < SLIPS; slip++) {
                int gain = landingGain(thing, cell % SIDE + SLIP_ASIDE[slip], cell / SIDE + SLIP_DOWN[slip]);
                sum += weight(play.yard.arm[person], slip) * gain;
            }
            return sum;
        }

        private int landingGain(int thing, int x, int y) {
            int hit = play.land(thing, x, y);
            int gain = scene.place[thing] == HAND ? 0 : -play.yard.worth[thing];
            if (hit != NONE && scene.place[hit] == HAND) {
                gain += play.yard.worth[hit];
            }
            play.takeBack(thing, hit, x, y);
            return gain;
        }

        /** NEXT: somebody is there and something is in hand. */
        void choose() {
            Arrays.fill(gains, NO_GAIN);
            for (int thing = 0; thing < play.yard.things; thing++) {
                if (scene.place[thing] == HAND) {
                    tabulate(thing);
                    chooseCells(thing);
                }
            }
            bestPerson = 0;
            for (int i = 1; i < play.yard.people; i++) {
                if (gains[i] > gains[bestPerson]) {
                    bestPerson = i;
                }
            }
            bestGain = gains[bestPerson];
            bestThing = thingOf[bestPerson];
            bestCell = cellOf[bestPerson];
        }

        private void tabulate(int thing) {
            for (int y = -1; y <= play.roof.deep; y++) {
                for (int x = -1; x <= play.roof.wide; x++) {
                    brought[(y + 1) * FRAME + x + 1] = landingGain(thing, x, y);
                }
            }
        }

        private void chooseCells(int thing) {
            for (int y = 0; y < play.roof.deep; y++) {
                for (int x = 0; x < play.roof.wide; x++) {
                    int middle = (y + 1) * FRAME + x + 1;
                    int around = 0;
                    for (int slip = 1; slip < SLIPS; slip++) {
                        around += brought[middle + SLIP_DOWN[slip] * FRAME + SLIP_ASIDE[slip]];
                    }
                    compare(thing, y * SIDE + x, brought[middle], around);
                }
            }
        }

        /** Keeps for each PERSON the first THING and CELL of the greatest GAIN. */
        private void compare(int thing, int cell, int straight, int around) {
            for (int i = 0; i < play.yard.people; i++) {
                int gain = mean(i, straight, around);
                if (gain > gains[i]) {
                    gains[i] = gain;
                    thingOf[i] = thing;
                    cellOf[i] = cell;
                }
            }
        }

        private int mean(int person, int straight, int around) {
            int arm = play.yard.arm[person];
            return weight(arm, 0) * straight + weight(arm, 1) * around;
        }

        private int greatestMean(int straight, int around) {
            int best = mean(0, straight, around);
            for (int i = 1; i < play.yard.people; i++) {
                best = Math.max(best, mean(i, straight, around));
            }
            return best;
        }

        int meanOfOne() {
            int now = ALL * play.worthInHand();
            int best = now;
            for (int pair = 0; pair < MOST_THINGS * MOST_THINGS; pair++) {
                int thing = pair / MOST_THINGS;
                int cell = scene.place[pair % MOST_THINGS];
                if (!isInHand(thing) || cell >= CELLS) {
                    continue;
                }
                int straight = landingGain(thing, cell % SIDE, cell / SIDE);
                int around = 0;
                for (int slip = 1; slip < SLIPS; slip++) {
                    around += landingGain(thing, cell % SIDE + SLIP_ASIDE[slip], cell / SIDE + SLIP_DOWN[slip]);
                }
                best = Math.max(best, now + greatestMean(straight, around));
            }
            return best;
        }

        int meanOfTwo() {
            int best = ALL * meanOfOne();
            for (int pair = 0; pair < MOST_THINGS * MOST_THINGS; pair++) {
                int thing = pair / MOST_THINGS;
                int cell = scene.place[pair % MOST_THINGS];
                if (!isInHand(thing) || cell >= CELLS) {
                    continue;
                }
                int straight = 0;
                int around = 0;
                for (int slip = 0; slip < SLIPS; slip++) {
                    int x = cell % SIDE + SLIP_ASIDE[slip];
                    int y = cell / SIDE + SLIP_DOWN[slip];
                    int hit = play.land(thing, x, y);
                    int behind = meanOfOne();
                    play.takeBack(thing, hit, x, y);
                    straight += slip == 0 ? behind : 0;
                    around += slip == 0 ? 0 : behind;
                }
                best = Math.max(best, greatestMean(straight, around));
            }
            return best;
        }

        private boolean isInHand(int thing) {
            return thing < play.yard.things && scene.place[thing] == HAND;
        }

        /** ALONE, for a THING on the roof: somebody is there and something is in hand. */
        void chooseAlone(int wanted) {
            bestGain = NONE;
            int cell = scene.place[wanted];
            for (int person = 0; person < play.yard.people; person++) {
                for (int thing = 0; thing < play.yard.things; thing++) {
                    if (scene.place[thing] != HAND) {
                        continue;
                    }
                    int chance = chanceFor(wanted, person, thing, cell);
                    if (chance > bestGain) {
                        bestGain = chance;
                        bestPerson = person;
                        bestThing = thing;
                    }
                }
            }
        }

        private int chanceFor(int wanted, int person, int thing, int cell) {
            int sum = 0;
            for (int slip = 0; slip < SLIPS; slip++) {
                int x = cell % SIDE + SLIP_ASIDE[slip];
                int y = cell / SIDE + SLIP_DOWN[slip];
                int hit = play.land(thing, x, y);
                if (scene.place[wanted] == HAND) {
                    sum += weight(play.yard.arm[person], slip);
                }
                play.takeBack(thing, hit, x, y);
            }
            return sum;
        }

        /** LIES. */
        void narrow(int person, int thing, int cell) {
            fitting = 0;
            unlike = 0;
            leastPlace = PIPED;
            for (int slip = 0; slip < SLIPS; slip++) {
                int chance = weight(play.yard.arm[person], slip);
                int x = cell % SIDE + SLIP_ASIDE[slip];
                int y = cell / SIDE + SLIP_DOWN[slip];
                int hit = play.land(thing, x, y);
                if (chance > 0 && isAsSeen()) {
                    fitting += chance;
                    meet(told(scene.place[thing]));
                }
                play.takeBack(thing, hit, x, y);
            }
        }

        private void meet(int place) {
            leastPlace = Math.min(leastPlace, place);
            for (int i = 0; i < unlike; i++) {
                if (places[i] == place) {
                    return;
                }
            }
            places[unlike] = place;
            unlike++;
        }

        private boolean isAsSeen() {
            for (int x = 0; x < play.roof.wide; x++) {
                if (scene.seen[x] != UNTOLD && scene.seen[x] != kindBelow(x)) {
                    return false;
                }
            }
            return true;
        }

        /** The KIND nearest the street in a column; what is in a pipe is not seen. */
        private int kindBelow(int x) {
            for (int y = play.roof.deep - 1; y >= 0; y--) {
                int cell = y * SIDE + x;
                int thing = scene.who[cell];
                if (thing >= 0 && play.roof.tiles[cell] != PIPE) {
                    return play.yard.kind[thing];
                }
            }
            return NONE;
        }
    }

    /** WAITING: who fetches first what is over. */
    private static final class Waiting {
        private static final int CHOICES = 8;
        private static final int NEVER = 7;

        private int people;
        private int price;
        /** What each one's own that is over is worth: he pays it each day. */
        private final int[] daily = new int[MOST_PEOPLE];
        private final int[] choice = new int[MOST_PEOPLE];

        void begin(Yard yard, Scene scene, int fetchingPrice) {
            people = yard.people;
            price = fetchingPrice;
            Arrays.fill(daily, 0);
            for (int i = 0; i < yard.things; i++) {
                if (scene.place[i] == OVER) {
                    daily[yard.owner[i]] += yard.worth[i];
                }
            }
        }

        /** How many RESTS there are (NONE), or the one of a number; NONE if there is none such. */
        int find(int which) {
            int all = 1 << 3 * people;
            int many = 0;
            for (int code = 0; code < all; code++) {
                decode(code);
                if (isRest()) {
                    if (many == which) {
                        return code;
                    }
                    many++;
                }
            }
            return which == NONE ? many : NONE;
        }

        private void decode(int code) {
            int left = code;
            for (int i = people - 1; i >= 0; i--) {
                choice[i] = left % CHOICES;
                left /= CHOICES;
            }
        }

        private boolean isRest() {
            for (int i = 0; i < people; i++) {
                int now = cost(i, choice[i]);
                for (int day = 0; day < CHOICES; day++) {
                    if (cost(i, day) < now) {
                        return false;
                    }
                }
            }
            return true;
        }

        /** What a PERSON pays who chooses a day, the others as they have chosen. */
        private int cost(int person, int day) {
            int least = day;
            boolean fetches = day != NEVER;
            for (int i = 0; i < people; i++) {
                boolean ahead = choice[i] < least || (choice[i] == least && i < person);
                if (i != person && ahead) {
                    least = choice[i];
                    fetches = false;
                }
            }
            return daily[person] * least + (fetches ? price : 0);
        }
    }
}
