import java.util.ArrayList;
import java.util.Arrays;
import java.util.List;
import java.util.NoSuchElementException;

/**
 * The document once more, as plainly as can be and without regard to cost: each trial is made on a copy of all.
 * Shares no code with GutterNine; the tests compare the two.
 */
final class Model implements Cloneable {
    private static final int NONE = -1;
    private static final String TILES = "fdulrmgpc";
    private static final List<String> KINDS = List.of("ball", "shoe", "frisbee", "stick");
    private static final List<String> RESERVED = List.of("person", "arm", "thing", "of", "worth", "shot", "left",
        "right", "up", "times", "net", "window", "reach", "first", "temper", "damage", "ball", "shoe", "frisbee",
        "stick", "not", "and", "or");
    private static final List<String> FACTS = List.of("lost", "value", "days");

    /** A THING: where is 'c' on a CELL, 'h' in hand, 'o' over, 'p' in a pipe. */
    private static final class Thing implements Cloneable {
        String name;
        int kind;
        int owner;
        int worth;
        char where = 'h';
        int x;
        int y;
        int thrower = NONE;

        Thing copy() {
            try {
                return (Thing) clone();
            } catch (CloneNotSupportedException e) {
                throw new AssertionError(e);
            }
        }

        int place() {
            return where == 'c' ? y * 8 + x : where == 'h' ? 64 : where == 'o' ? 65 : 66;
        }

        boolean at(char kindOfPlace, int px, int py) {
            return where == kindOfPlace && x == px && y == py;
        }

        void set(char to, int px, int py) {
            where = to;
            x = px;
            y = py;
        }
    }

    private static final class Token {
        String text;
        int place;
        /** w a WORD, n a NUMBER, s a sign, x none, e the end. */
        char sort;
    }

    private static final class Fault extends RuntimeException {
        private static final long serialVersionUID = 1;
        final int code;

        Fault(int kind, Token token) {
            super(null, null, false, false);
            code = kind + 16 * token.place;
        }
    }

    private interface E {
        int of(int lost, int value, int days);
    }

    private String tape = "";
    private String[] rows = {"ff", "ff"};
    private List<String> people = new ArrayList<>();
    private List<Integer> arms = new ArrayList<>();
    private List<Thing> things = new ArrayList<>();
    private List<int[]> shots = new ArrayList<>();
    private int net = NONE;
    private int[] window = null;
    private int first = 0;
    private E temper = (lost, value, days) -> lost;
    private E damage = (lost, value, days) -> 1;
    private int today = 0;
    private int paid = 0;
    private int[] seen = {-2, -2, -2, -2, -2, -2, -2, -2};
    private List<Model> undos = new ArrayList<>();
    private Model[] marks = new Model[4];

    private Model copy() {
        try {
            Model m = (Model) clone();
            m.things = new ArrayList<>();
            for (Thing t : things) {
                m.things.add(t.copy());
            }
            m.seen = seen.clone();
            m.undos = new ArrayList<>(undos);
            m.marks = marks.clone();
            return m;
        } catch (CloneNotSupportedException e) {
            throw new AssertionError(e);
        }
    }

    // ---- the tape

    int feed(long a, long b, long c) {
        StringBuilder all = new StringBuilder(tape);
        for (long part : new long[] {a, b, c}) {
            for (int i = 7; i >= 0; i--) {
                int sign = (int) (part >>> (8 * i) & 0xff);
                if (sign == '\n' || sign >= ' ' && sign <= '~') {
                    all.append((char) sign);
                }
            }
        }
        tape = all.length() > 1000 ? all.substring(0, 1000) : all.toString();
        return tape.length();
    }

    private List<Token> tokens;
    private int at;

    private void tokenize() {
        tokens = new ArrayList<>();
        at = 0;
        int i = 0;
        while (i < tape.length()) {
            char c = tape.charAt(i);
            if (c == ' ' || c == '\n') {
                i++;
                continue;
            }
            Token t = new Token();
            t.place = i;
            int j = i + 1;
            if (Character.isLowerCase(c)) {
                while (j < tape.length() && Character.isLowerCase(tape.charAt(j))) {
                    j++;
                }
                t.sort = j - i > 8 ? 'x' : 'w';
            } else if (Character.isDigit(c)) {
                while (j < tape.length() && Character.isDigit(tape.charAt(j))) {
                    j++;
                }
                t.sort = j - i > 4 ? 'x' : 'n';
            } else {
                t.sort = "()<=+-*;".indexOf(c) >= 0 ? 's' : 'x';
            }
            t.text = tape.substring(i, j);
            tokens.add(t);
            i = j;
        }
        Token end = new Token();
        end.place = tape.length();
        end.sort = 'e';
        end.text = "";
        tokens.add(end);
        tape = "";
    }

    private Token look() {
        return tokens.get(at);
    }

    private Token expect(String... texts) {
        Token t = look();
        if (t.sort == 'x' || !Arrays.asList(texts).contains(t.text) || t.sort == 'e') {
            throw new Fault(1, t);
        }
        at++;
        return t;
    }

    private int number(int low, int high) {
        Token t = look();
        if (t.sort != 'n') {
            throw new Fault(1, t);
        }
        int value = Integer.parseInt(t.text);
        if (value < low || value > high) {
            throw new Fault(4, t);
        }
        at++;
        return value;
    }

    private void restart() {
        for (Thing t : things) {
            t.set('h', 0, 0);
            t.thrower = NONE;
        }
        today = 0;
        paid = 0;
        Arrays.fill(seen, -2);
        undos.clear();
        marks = new Model[4];
    }

    int roof() {
        tokenize();
        try {
            expect("roof");
            int wide = number(2, 8);
            int deep = number(2, 8);
            expect(";");
            List<String> read = new ArrayList<>();
            while (look().sort != 'e' || read.size() < deep) {
                if (look().sort == 'w' && look().text.equals("row") && read.size() == deep) {
                    throw new Fault(5, look());
                }
                if (read.size() == deep) {
                    throw new Fault(1, look());
                }
                expect("row");
                Token t = look();
                if (t.sort != 'w') {
                    throw new Fault(1, t);
                }
                if (!t.text.matches("[" + TILES + "]{" + wide + "}")) {
                    throw new Fault(2, t);
                }
                at++;
                expect(";");
                read.add(t.text);
            }
            rows = read.toArray(new String[0]);
            restart();
            return 0;
        } catch (Fault f) {
            return f.code;
        }
    }

    private Token name() {
        Token t = look();
        if (t.sort != 'w' || RESERVED.contains(t.text)) {
            throw new Fault(1, t);
        }
        at++;
        return t;
    }

    int yard() {
        tokenize();
        Model m = new Model();
        m.tokens = tokens;
        m.at = 0;
        try {
            List<String> once = new ArrayList<>();
            while (m.look().sort != 'e') {
                m.line(once);
            }
        } catch (Fault f) {
            return f.code;
        }
        people = m.people;
        arms = m.arms;
        things = m.things;
        shots = m.shots;
        net = m.net;
        window = m.window;
        first = m.first;
        temper = m.temper;
        damage = m.damage;
        restart();
        return 0;
    }

    private void line(List<String> once) {
        Token t = expect("person", "thing", "shot", "net", "window", "first", "temper", "damage");
        int many = t.text.equals("person") ? people.size() - 4 : t.text.equals("thing") ? things.size() - 8
            : t.text.equals("shot") ? shots.size() - 6 : -1;
        if (many == 0) {
            throw new Fault(5, t);
        }
        if (once.contains(t.text)) {
            throw new Fault(3, t);
        }
        if (!List.of("person", "thing", "shot").contains(t.text)) {
            once.add(t.text);
        }
        switch (t.text) {
            case "person" -> person();
            case "thing" -> thingLine();
            case "shot" -> shot();
            case "net" -> net = number(0, 12);
            case "window" -> {
                int x = number(0, 7);
                int y = number(0, 7);
                expect("reach");
                window = new int[] {x, y, number(0, 8)};
            }
            case "first" -> first = number(0, 6);
            case "temper" -> temper = e(0);
            default -> damage = e(0);
        }
        expect(";");
    }

    private String newName() {
        Token t = name();
        for (Thing thing : things) {
            if (thing.name.equals(t.text)) {
                throw new Fault(3, t);
            }
        }
        if (people.contains(t.text)) {
            throw new Fault(3, t);
        }
        return t.text;
    }

    private void person() {
        String n = newName();
        expect("arm");
        arms.add(number(0, 10));
        people.add(n);
    }

    private void thingLine() {
        Thing thing = new Thing();
        thing.name = newName();
        thing.kind = KINDS.indexOf(expect("ball", "shoe", "frisbee", "stick").text);
        expect("of");
        Token owner = name();
        thing.owner = people.indexOf(owner.text);
        if (thing.owner < 0) {
            throw new Fault(2, owner);
        }
        expect("worth");
        thing.worth = number(0, 99);
        things.add(thing);
    }

    private void shot() {
        boolean left = expect("left", "right").text.equals("left");
        int aside = number(0, 8);
        expect("up");
        int up = number(1, 12);
        expect("times");
        shots.add(new int[] {left ? -aside : aside, up, number(1, 99)});
    }

    private boolean next(String text) {
        return look().sort != 'x' && look().sort != 'e' && look().text.equals(text);
    }

    private E e(int within) {
        E left = test(within);
        while (next("and") || next("or")) {
            boolean and = next("and");
            at++;
            E a = left;
            E b = test(within);
            left = and ? (l, v, d) -> a.of(l, v, d) != 0 & b.of(l, v, d) != 0 ? 1 : 0
                : (l, v, d) -> a.of(l, v, d) != 0 | b.of(l, v, d) != 0 ? 1 : 0;
        }
        return left;
    }

    private E test(int within) {
        E a = sum(within);
        if (!next("<") && !next("=")) {
            return a;
        }
        boolean less = next("<");
        at++;
        E b = sum(within);
        return less ? (l, v, d) -> a.of(l, v, d) < b.of(l, v, d) ? 1 : 0
            : (l, v, d) -> a.of(l, v, d) == b.of(l, v, d) ? 1 : 0;
    }

    private E sum(int within) {
        E left = product(within);
        while (next("+") || next("-")) {
            boolean plus = next("+");
            at++;
            E a = left;
            E b = product(within);
            left = plus ? (l, v, d) -> a.of(l, v, d) + b.of(l, v, d) : (l, v, d) -> a.of(l, v, d) - b.of(l, v, d);
        }
        return left;
    }

    private E product(int within) {
        E left = part(within);
        while (next("*")) {
            at++;
            E a = left;
            E b = part(within);
            left = (l, v, d) -> a.of(l, v, d) * b.of(l, v, d);
        }
        return left;
    }

    private E part(int within) {
        Token t = look();
        boolean can = t.sort == 'n' || t.sort == 'w' && (FACTS.contains(t.text) || t.text.equals("not"))
            || t.sort == 's' && t.text.equals("(");
        if (!can) {
            throw new Fault(1, t);
        }
        if (within == 5) {
            throw new Fault(5, t);
        }
        at++;
        if (t.sort == 'n') {
            int n = Integer.parseInt(t.text);
            return (l, v, d) -> n;
        }
        switch (t.text) {
            case "lost":
                return (l, v, d) -> l;
            case "value":
                return (l, v, d) -> v;
            case "days":
                return (l, v, d) -> d;
            case "not":
                E a = part(within + 1);
                return (l, v, d) -> a.of(l, v, d) == 0 ? 1 : 0;
            default:
                E inner = e(within + 1);
                expect(")");
                return inner;
        }
    }

    // ---- what is where

    private int wide() {
        return rows[0].length();
    }

    private int deep() {
        return rows.length;
    }

    private boolean on(int x, int y) {
        return x >= 0 && y >= 0 && x < wide() && y < deep();
    }

    private char tileAt(int x, int y) {
        return rows[y].charAt(x);
    }

    private Thing onCell(int x, int y) {
        return things.stream().filter(t -> t.at('c', x, y)).findFirst().orElse(null);
    }

    private Thing inPipe(int x, int y) {
        return things.stream().filter(t -> t.at('p', x, y)).findFirst().orElse(null);
    }

    int tile(int x, int y, int what) {
        if (!on(x, y) || what < 0 || what > 1) {
            return NONE;
        }
        if (what == 0) {
            return TILES.indexOf(tileAt(x, y));
        }
        Thing t = tileAt(x, y) == 'p' ? inPipe(x, y) : onCell(x, y);
        return things.indexOf(t);
    }

    int thing(int i, int what) {
        if (i < 0 || i >= things.size() || what < 0 || what > 4) {
            return NONE;
        }
        Thing t = things.get(i);
        return new int[] {t.kind, t.owner, t.worth, t.place(), t.thrower}[what];
    }

    int arm(int person) {
        return person >= 0 && person < arms.size() ? arms.get(person) : NONE;
    }

    // ---- moving

    /** A THING on a CELL COMES TO the next: whether it left. */
    private boolean comesTo(Thing t, int dx, int dy) {
        int x = t.x + dx;
        int y = t.y + dy;
        if (y >= deep() || x < 0 || x >= wide()) {
            t.set('h', 0, 0);
        } else if (y < 0) {
            t.set('o', 0, 0);
        } else if (tileAt(x, y) == 'c' || onCell(x, y) != null) {
            return false;
        } else if (tileAt(x, y) == 'p') {
            if (inPipe(x, y) == null) {
                t.set('p', x, y);
            } else {
                t.set('h', 0, 0);
            }
        } else {
            t.set('c', x, y);
        }
        return true;
    }

    private void roll(Thing t) {
        List<Integer> been = new ArrayList<>();
        int left = t.kind == 0 ? 1000 : t.kind == 2 ? 1 : 0;
        while (left-- > 0 && t.where == 'c') {
            been.add(t.place());
            char tile = tileAt(t.x, t.y);
            int dx = tile == 'l' ? -1 : tile == 'r' ? 1 : 0;
            int dy = tile == 'd' ? 1 : tile == 'u' ? -1 : 0;
            if (dx == 0 && dy == 0 || on(t.x + dx, t.y + dy) && been.contains((t.y + dy) * 8 + t.x + dx)) {
                return;
            }
            if (!comesTo(t, dx, dy)) {
                return;
            }
        }
    }

    private void hurl(Thing t, int aimX, int aimY, int slip) {
        int around = slip <= 4 ? slip - 1 : slip;
        int x = slip == 0 ? aimX : aimX + around % 3 - 1;
        int y = slip == 0 ? aimY : aimY + around / 3 - 1;
        if (x < 0 || x >= wide() || y >= deep()) {
            return;
        }
        if (y < 0) {
            t.set('o', 0, 0);
            return;
        }
        if (tileAt(x, y) == 'c') {
            return;
        }
        if (tileAt(x, y) == 'p') {
            if (inPipe(x, y) == null) {
                t.set('p', x, y);
            }
            return;
        }
        Thing hit = onCell(x, y);
        if (hit != null) {
            boolean came = comesTo(hit, 0, 1);
            if (came && t.kind == 3 && hit.where == 'c') {
                comesTo(hit, 0, 1);
            }
            if (came && hit.where == 'c') {
                roll(hit);
            }
            if (hit.at('c', x, y)) {
                return;
            }
        }
        t.set('c', x, y);
        roll(t);
    }

    private boolean throwable(int person, int thing, int x, int y) {
        return person >= 0 && person < people.size() && thing >= 0 && thing < things.size() && on(x, y)
            && things.get(thing).where == 'h';
    }

    private void remember() {
        undos.add(copy());
        if (undos.size() > 16) {
            undos.remove(0);
        }
    }

    int toss(int person, int thing, int x, int y, int slip) {
        if (!throwable(person, thing, x, y) || slip < 0 || slip > 8) {
            return NONE;
        }
        remember();
        things.get(thing).thrower = person;
        hurl(things.get(thing), x, y, slip);
        return things.get(thing).place();
    }

    private int wash(int row) {
        List<int[]> order = new ArrayList<>();
        for (Thing t : things) {
            if (t.where == 'c' && t.y == row && tileAt(t.x, row) == 'g') {
                int best = NONE;
                for (int x = wide() - 1; x >= 0; x--) {
                    if (tileAt(x, row) == 'p' && (best == NONE || Math.abs(x - t.x) <= Math.abs(best - t.x))) {
                        best = x;
                    }
                }
                if (best != NONE) {
                    order.add(new int[] {Math.abs(best - t.x) * 100 + t.x, things.indexOf(t), best});
                }
            }
        }
        order.sort((a, b) -> Integer.compare(a[0], b[0]));
        int moved = 0;
        for (int[] entry : order) {
            Thing t = things.get(entry[1]);
            int from = t.x;
            int dx = Integer.signum(entry[2] - t.x);
            while (t.where == 'c') {
                char next = tileAt(t.x + dx, row);
                if (next != 'g' && next != 'p' || !comesTo(t, dx, 0)) {
                    break;
                }
            }
            if (t.where != 'c' || t.x != from) {
                moved++;
            }
        }
        return moved;
    }

    int hose(int row) {
        if (row < 0 || row >= deep()) {
            return NONE;
        }
        remember();
        return wash(row);
    }

    int broom() {
        if (window == null) {
            return NONE;
        }
        remember();
        int bits = 0;
        for (int i = 0; i < things.size(); i++) {
            Thing t = things.get(i);
            if (t.where == 'c' && Math.abs(t.x - window[0]) + Math.abs(t.y - window[1]) <= window[2]) {
                t.set('h', 0, 0);
                bits += 1 << i;
            }
        }
        return bits;
    }

    private int blow(int way) {
        int moved = 0;
        for (Thing t : things) {
            if (t.where != 'c' || t.kind == 1 || t.kind == 3 || "mg".indexOf(tileAt(t.x, t.y)) >= 0) {
                continue;
            }
            int ahead = t.place();
            boolean came = comesTo(t, way == 2 ? -1 : way == 3 ? 1 : 0, way == 0 ? 1 : way == 1 ? -1 : 0);
            if (came && t.where == 'c') {
                roll(t);
            }
            if (t.place() != ahead) {
                moved++;
            }
        }
        return moved;
    }

    int gale(int way) {
        if (way < 0 || way > 3) {
            return NONE;
        }
        remember();
        return blow(way);
    }

    private int many(String wheres) {
        return (int) things.stream().filter(t -> wheres.indexOf(t.where) >= 0).count();
    }

    private int worth(String wheres) {
        return things.stream().filter(t -> wheres.indexOf(t.where) >= 0).mapToInt(t -> t.worth).sum();
    }

    private int due(E law) {
        int value = law.of(many("cp"), worth("cp"), today);
        return value < 0 ? 0 : value > 99 ? 99 : value;
    }

    private boolean isSaturday() {
        return (first + today) % 7 == 5;
    }

    private void pass() {
        if (many("p") > 0) {
            paid += due(damage);
        }
        if (isSaturday() && many("cp") > 0) {
            paid += due(temper);
            for (Thing t : things) {
                if (t.where == 'c' || t.where == 'p') {
                    t.set('h', 0, 0);
                }
            }
        }
        today++;
    }

    int days(int many) {
        if (many < 1 || many > 100) {
            return NONE;
        }
        remember();
        for (int i = 0; i < many; i++) {
            pass();
        }
        return today;
    }

    int fetch(int person) {
        if (person < 0 || person >= people.size()) {
            return NONE;
        }
        remember();
        int many = many("o");
        for (Thing t : things) {
            if (t.where == 'o') {
                t.set('h', 0, 0);
            }
        }
        return many;
    }

    private void become(Model m) {
        things = new ArrayList<>();
        for (Thing t : m.things) {
            things.add(t.copy());
        }
        today = m.today;
        paid = m.paid;
    }

    boolean undo() {
        if (undos.isEmpty()) {
            return false;
        }
        become(undos.remove(undos.size() - 1));
        return true;
    }

    // ---- what would be

    private static Thing freshBall(int x, int y) {
        Thing ball = new Thing();
        ball.name = "";
        ball.set('c', x, y);
        return ball;
    }

    int rolls(int x, int y) {
        if (!on(x, y) || "pc".indexOf(tileAt(x, y)) >= 0 || onCell(x, y) != null) {
            return NONE;
        }
        Model m = copy();
        Thing ball = freshBall(x, y);
        m.things.add(ball);
        m.roll(ball);
        return ball.place();
    }

    private int weight(int person, int slip) {
        return slip == 0 ? 8 * arms.get(person) : 10 - arms.get(person);
    }

    private Model after(int thing, int x, int y, int slip) {
        Model m = copy();
        m.hurl(m.things.get(thing), x, y, slip);
        return m;
    }

    int odds(int person, int thing, int x, int y, int what) {
        if (!throwable(person, thing, x, y) || what < 0 || what > 4) {
            return NONE;
        }
        int sum = 0;
        for (int slip = 0; slip <= 8; slip++) {
            Model m = after(thing, x, y, slip);
            boolean so = what > 0 && m.things.get(thing).where == "?hcop".charAt(what);
            for (int i = 0; i < things.size() && what == 0; i++) {
                so |= i != thing && things.get(i).where != 'h' && m.things.get(i).where == 'h';
            }
            sum += so ? weight(person, slip) : 0;
        }
        return sum;
    }

    int gain(int person, int thing, int x, int y) {
        if (!throwable(person, thing, x, y)) {
            throw new NoSuchElementException();
        }
        int sum = 0;
        for (int slip = 0; slip <= 8; slip++) {
            sum += weight(person, slip) * (after(thing, x, y, slip).worth("h") - worth("h"));
        }
        return sum;
    }

    int next(int what) {
        if (what < 0 || what > 3 || people.isEmpty() || many("h") == 0) {
            throw new NoSuchElementException();
        }
        int[] best = null;
        for (int person = 0; person < people.size(); person++) {
            for (int thing = 0; thing < things.size(); thing++) {
                for (int y = 0; y < deep(); y++) {
                    for (int x = 0; x < wide(); x++) {
                        if (throwable(person, thing, x, y)) {
                            int gain = gain(person, thing, x, y);
                            if (best == null || gain > best[0]) {
                                best = new int[] {gain, person, thing, y * 8 + x};
                            }
                        }
                    }
                }
            }
        }
        return best[what];
    }

    private int best(int ahead) {
        if (ahead == 0) {
            return worth("h");
        }
        int best = 80 * best(ahead - 1);
        for (int person = 0; person < people.size(); person++) {
            for (int thing = 0; thing < things.size(); thing++) {
                for (Thing target : things) {
                    if (target.where != 'c' || things.get(thing).where != 'h') {
                        continue;
                    }
                    int sum = 0;
                    for (int slip = 0; slip <= 8; slip++) {
                        if (weight(person, slip) > 0) {
                            sum += weight(person, slip) * after(thing, target.x, target.y, slip).best(ahead - 1);
                        }
                    }
                    best = Math.max(best, sum);
                }
            }
        }
        return best;
    }

    int plan(int ahead) {
        return ahead < 1 || ahead > 2 ? NONE : best(ahead);
    }

    int alone(int wanted, int what) {
        if (wanted < 0 || wanted >= things.size() || things.get(wanted).where != 'c' || what < 0 || what > 2
            || people.isEmpty() || many("h") == 0) {
            return NONE;
        }
        Thing w = things.get(wanted);
        int[] best = null;
        for (int person = 0; person < people.size(); person++) {
            for (int thing = 0; thing < things.size(); thing++) {
                if (things.get(thing).where != 'h') {
                    continue;
                }
                int sum = 0;
                for (int slip = 0; slip <= 8; slip++) {
                    if (after(thing, w.x, w.y, slip).things.get(wanted).where == 'h') {
                        sum += weight(person, slip);
                    }
                }
                if (best == null || sum > best[0]) {
                    best = new int[] {sum, person, thing};
                }
            }
        }
        return best[what];
    }

    int washed(int row, int what) {
        if (row < 0 || row >= deep() || what < 0 || what > 1) {
            return NONE;
        }
        Model m = copy();
        m.wash(row);
        int bits = 0;
        char where = what == 0 ? 'h' : 'p';
        for (int i = 0; i < things.size(); i++) {
            bits |= things.get(i).where != where && m.things.get(i).where == where ? 1 << i : 0;
        }
        return bits;
    }

    int blown(int what) {
        if (what < 0 || what > 1) {
            return NONE;
        }
        int[] each = new int[4];
        for (int way = 0; way < 4; way++) {
            Model m = copy();
            m.blow(way);
            each[way] = m.many("h") - many("h");
        }
        int best = 0;
        for (int way = 1; way < 4; way++) {
            best = each[way] > each[best] ? way : best;
        }
        return what == 0 ? Arrays.stream(each).sum() : best;
    }

    int await(int what) {
        if (what < 0 || what > 1) {
            throw new NoSuchElementException();
        }
        Model m = copy();
        int days = 0;
        boolean passed = false;
        while (!passed) {
            passed = m.isSaturday();
            m.pass();
            days++;
        }
        return what == 0 ? days : m.worth("h") - worth("h") - (m.paid - paid);
    }

    boolean see(int x, int kind) {
        if (x < 0 || x >= wide() || kind < -2 || kind > 3) {
            return false;
        }
        seen[x] = kind;
        return true;
    }

    private boolean fits() {
        for (int x = 0; x < wide(); x++) {
            int kind = NONE;
            for (int y = 0; y < deep(); y++) {
                Thing t = onCell(x, y);
                kind = t == null ? kind : t.kind;
            }
            if (seen[x] != -2 && seen[x] != kind) {
                return false;
            }
        }
        return true;
    }

    int lies(int person, int thing, int x, int y, int what) {
        if (!throwable(person, thing, x, y) || what < 0 || what > 2) {
            return NONE;
        }
        int sum = 0;
        List<Integer> places = new ArrayList<>();
        for (int slip = 0; slip <= 8; slip++) {
            Model m = after(thing, x, y, slip);
            if (weight(person, slip) > 0 && m.fits()) {
                sum += weight(person, slip);
                places.add(m.things.get(thing).place());
            }
        }
        if (sum == 0) {
            return NONE;
        }
        return what == 0 ? sum : what == 1 ? (int) places.stream().distinct().count()
            : places.stream().mapToInt(p -> p).min().getAsInt();
    }

    private Model bare() {
        Model m = copy();
        m.things.clear();
        return m;
    }

    private int lostAt(int column) {
        int lost = 0;
        for (int[] shot : shots) {
            int x = column + shot[0];
            int y = deep() - shot[1];
            Model m = bare();
            Thing ball = freshBall(0, 0);
            ball.set('h', 0, 0);
            m.things.add(ball);
            m.hurl(ball, x, y, 0);
            boolean caught = net != NONE && shot[1] > net;
            lost += caught || ball.where == 'h' ? 0 : shot[2];
        }
        return lost;
    }

    int pitch(int what) {
        if (what < 0 || what > wide() + 1) {
            return NONE;
        }
        if (what > 1) {
            return lostAt(what - 2);
        }
        int best = 0;
        for (int x = 0; x < wide(); x++) {
            best = lostAt(x) < lostAt(best) ? x : best;
        }
        return what == 0 ? lostAt(best) : best;
    }

    int pays(int person, int law) {
        if (person < 0 || person >= people.size() || law < 0 || law > 2) {
            return NONE;
        }
        if (law == 1) {
            return worth("cop") / people.size();
        }
        return things.stream().filter(t -> t.where != 'h' && (law == 0 ? t.thrower : t.owner) == person)
            .mapToInt(t -> t.worth).sum();
    }

    private int[] costs(int[] choice, int price) {
        int least = Arrays.stream(choice).min().getAsInt();
        int[] costs = new int[choice.length];
        for (int i = 0; i < choice.length; i++) {
            int person = i;
            costs[i] = least * things.stream().filter(t -> t.where == 'o' && t.owner == person)
                .mapToInt(t -> t.worth).sum();
        }
        for (int i = 0; i < choice.length; i++) {
            if (choice[i] == least) {
                costs[i] += least < 7 ? price : 0;
                break;
            }
        }
        return costs;
    }

    int rests(int price, int what) {
        if (price < 0 || price > 999 || what < -1 || people.isEmpty()) {
            return NONE;
        }
        int n = people.size();
        List<Integer> found = new ArrayList<>();
        for (int code = 0; code < Math.pow(8, n); code++) {
            int[] choice = new int[n];
            for (int i = 0; i < n; i++) {
                choice[i] = code >> 3 * (n - 1 - i) & 7;
            }
            int[] now = costs(choice, price);
            boolean rest = true;
            for (int i = 0; i < n && rest; i++) {
                for (int other = 0; other < 8 && rest; other++) {
                    int[] changed = choice.clone();
                    changed[i] = other;
                    rest = costs(changed, price)[i] >= now[i];
                }
            }
            if (rest) {
                found.add(code);
            }
        }
        return what == NONE ? found.size() : what < found.size() ? found.get(what) : NONE;
    }

    int otherwise(int x, int y, int place, int what) {
        if (!on(x, y) || "pc".indexOf(tileAt(x, y)) >= 0 || what < 0 || what > 1) {
            return NONE;
        }
        if (bare().rolls(x, y) == place) {
            return what == 0 ? 0 : NONE;
        }
        List<Integer> found = new ArrayList<>();
        for (int cy = 0; cy < deep(); cy++) {
            for (int cx = 0; cx < wide(); cx++) {
                for (char tile : "fdulrm".toCharArray()) {
                    char old = tileAt(cx, cy);
                    if (old == tile || "gpc".indexOf(old) >= 0) {
                        continue;
                    }
                    Model m = bare();
                    m.rows = rows.clone();
                    m.rows[cy] = rows[cy].substring(0, cx) + tile + rows[cy].substring(cx + 1);
                    if (m.rolls(x, y) == place) {
                        found.add((cy * 8 + cx) * 8 + TILES.indexOf(tile));
                    }
                }
            }
        }
        return found.isEmpty() ? NONE : what == 0 ? found.size() : found.get(0);
    }

    private long draw;

    private int draw(int below) {
        draw = (draw * 1103515245 + 12345) & 0x7fffffffL;
        return (int) ((draw >> 16) % below);
    }

    int summer(int seed, int days, int what) {
        if (seed < 0 || seed > 9999 || days < 1 || days > 60 || what < 0 || what > 3 || things.isEmpty()) {
            return NONE;
        }
        Model m = copy();
        m.draw = seed;
        for (int i = 1; i <= days; i++) {
            Thing t = m.things.get(m.draw(m.things.size()));
            if (t.where == 'h') {
                int cell = m.draw(wide() * deep());
                int r = m.draw(80);
                int slip = 0;
                int passed = weight(t.owner, 0);
                while (passed <= r) {
                    slip++;
                    passed += weight(t.owner, slip);
                }
                m.hurl(t, cell % wide(), cell / wide(), slip);
            }
            if (i % 10 == 0) {
                m.blow(m.draw(4));
            }
            m.pass();
        }
        return what == 0 ? m.many("h") : what == 1 ? m.many("o") : what == 2 ? m.many("cp") : m.paid - paid;
    }

    boolean mark(int mark, boolean back) {
        if (mark < 0 || mark > 3 || back && marks[mark] == null) {
            return false;
        }
        if (back) {
            become(marks[mark]);
            seen = marks[mark].seen.clone();
            undos.clear();
        } else {
            marks[mark] = copy();
        }
        return true;
    }

    int count(int what) {
        int told = (int) Arrays.stream(seen).filter(k -> k != -2).count();
        int[] all = {wide(), deep(), people.size(), things.size(), many("h"), many("c"), many("o"), many("p"), today,
            paid, undos.size(), told, tape.length()};
        return what < 0 || what >= all.length ? NONE : all[what];
    }
}
