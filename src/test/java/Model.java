import java.math.BigInteger;
import java.util.ArrayList;
import java.util.Arrays;
import java.util.HashMap;
import java.util.List;
import java.util.Map;
import java.util.TreeMap;

/**
 * The document once more, in the plainest form that could be thought of and without any of the program's
 * short cuts: every search goes through all there is. ModelTest holds the program against it.
 */
final class Model {
    record Roof(String name, int yard, int weight) { }

    record Kite(String name, int roof, int spool, int size, int cord, int height, boolean tied) { }

    record Boy(String name, int arms, int hours) { }

    record Stolen(int kite, boolean is, int told) { }

    static final class Fault extends Exception {
        private static final long serialVersionUID = 1L;
        final int kind;
        final int place;

        Fault(int kind, int place) {
            this.kind = kind;
            this.place = place;
        }
    }

    static final class Plan {
        final List<Roof> roofs = new ArrayList<>();
        final List<Kite> kites = new ArrayList<>();
        final List<Boy> boys = new ArrayList<>();
        final Map<Integer, Integer> holds = new TreeMap<>();
        Node wind;
        Node lift;
        int units;
        int gust = 0;
        int more = 1;
        int draw = 0;
    }

    record Node(String op, int number, Node left, Node right) {
        int of(Map<String, Integer> v) {
            switch (op) {
                case "n": return number;
                case "not": return left.of(v) == 0 ? 1 : 0;
                case "or": return left.of(v) != 0 | right.of(v) != 0 ? 1 : 0;
                case "and": return left.of(v) != 0 & right.of(v) != 0 ? 1 : 0;
                case "<": return left.of(v) < right.of(v) ? 1 : 0;
                case ">": return left.of(v) > right.of(v) ? 1 : 0;
                case "=": return left.of(v) == right.of(v) ? 1 : 0;
                case "+": return (int) ((long) left.of(v) + right.of(v));
                case "-": return (int) ((long) left.of(v) - right.of(v));
                case "*": return (int) ((long) left.of(v) * right.of(v));
                case "/": return right.of(v) == 0 ? 0 : (int) ((long) left.of(v) / right.of(v));
                case "%": return right.of(v) == 0 ? 0 : (int) ((long) left.of(v) % right.of(v));
                default: return v.getOrDefault(op, 0);
            }
        }
    }

    /** All that changes; copied whole. */
    static final class State {
        int[] height;
        int[] holder;
        boolean[] lost;
        int[] age;
        int[] left;
        int[] down;
        int hour;
        int day;
        int seed;

        State copy() {
            State s = new State();
            s.height = height.clone();
            s.holder = holder.clone();
            s.lost = lost.clone();
            s.age = age.clone();
            s.left = left.clone();
            s.down = down.clone();
            s.hour = hour;
            s.day = day;
            s.seed = seed;
            return s;
        }
    }

    private byte[] tape = new byte[0];
    private Plan plan = new Plan();
    private State now = first(plan);
    private int fault = 0;
    private int faultPlace = -1;
    private final List<State> undo = new ArrayList<>();
    private final List<State> redo = new ArrayList<>();
    private List<Integer> lying = new ArrayList<>();
    private final List<Stolen> stolen = new ArrayList<>();
    private final Map<Integer, Integer> untold = new TreeMap<>();
    private int time = 0;
    private final State[] boxes = new State[3];

    // ---- the text

    static final List<String> WORDS = Arrays.asList(("roof at weight kite of size cord height tied boy arms hours holds "
        + "wind lift gust draw or and not hour day force near age").split(" "));

    record Token(String text, char kind, int place) { }

    private static final class Lines {
        final byte[] text;
        final Plan plan = new Plan();
        int at = 0;
        Token token;
        int unitsHere;

        Lines(byte[] text) {
            this.text = text;
        }

        boolean letter(int i) {
            return i < text.length && text[i] >= 'a' && text[i] <= 'z';
        }

        boolean digit(int i) {
            return i < text.length && text[i] >= '0' && text[i] <= '9';
        }

        void step() throws Fault {
            while (at < text.length && (text[at] == 32 || text[at] == 10)) {
                at++;
            }
            int from = at;
            if (at == text.length) {
                token = new Token("", 'e', at);
            } else if (letter(at)) {
                while (letter(at)) {
                    at++;
                }
                if (at - from > 8) {
                    throw new Fault(1, from);
                }
                token = new Token(new String(text, from, at - from), 'w', from);
            } else if (digit(at)) {
                while (digit(at)) {
                    at++;
                }
                if (at - from > 4 || letter(at)) {
                    throw new Fault(1, from);
                }
                token = new Token(new String(text, from, at - from), 'n', from);
            } else if (";()<>=+-*/%".indexOf(text[at]) >= 0) {
                at++;
                token = new Token(String.valueOf((char) text[from]), 's', from);
            } else {
                throw new Fault(1, from);
            }
        }

        boolean is(String what) {
            return token.kind != 'e' && token.text.equals(what);
        }

        void need(boolean holds, int kind) throws Fault {
            if (!holds) {
                throw new Fault(kind, token.place);
            }
        }

        void word(String what) throws Fault {
            need(is(what), 2);
            step();
        }

        int number(int least, int most) throws Fault {
            need(token.kind == 'n', 2);
            int n = Integer.parseInt(token.text);
            need(n >= least && n <= most, 4);
            step();
            return n;
        }

        String name() throws Fault {
            need(token.kind == 'w' && !WORDS.contains(token.text), 2);
            return token.text;
        }

        Plan read() throws Fault {
            step();
            while (token.kind != 'e') {
                line();
                word(";");
            }
            return plan;
        }

        void line() throws Fault {
            need(token.kind == 'w', 2);
            String first = token.text;
            List<String> roofs = new ArrayList<>();
            List<String> kites = new ArrayList<>();
            List<String> boys = new ArrayList<>();
            plan.roofs.forEach(r -> roofs.add(r.name));
            plan.kites.forEach(k -> kites.add(k.name));
            plan.boys.forEach(b -> boys.add(b.name));
            switch (first) {
                case "roof": {
                    need(roofs.size() < 4, 2);
                    step();
                    String name = name();
                    need(!roofs.contains(name), 3);
                    step();
                    word("at");
                    int yard = number(0, 19);
                    word("weight");
                    plan.roofs.add(new Roof(name, yard, number(0, 999)));
                    break;
                }
                case "kite": {
                    need(kites.size() < 8, 2);
                    step();
                    String name = name();
                    need(!kites.contains(name), 3);
                    step();
                    word("of");
                    int roof = roofs.indexOf(name());
                    need(roof >= 0, 5);
                    step();
                    word("at");
                    int spool = number(0, 19);
                    word("size");
                    int size = number(1, 9);
                    word("cord");
                    int cord = number(1, 999);
                    int height = 0;
                    if (is("height")) {
                        step();
                        height = number(0, 9);
                    }
                    boolean tied = is("tied");
                    if (tied) {
                        step();
                    }
                    plan.kites.add(new Kite(name, roof, spool, size, cord, height, tied));
                    break;
                }
                case "boy": {
                    need(boys.size() < 4, 2);
                    step();
                    String name = name();
                    need(!boys.contains(name), 3);
                    step();
                    word("arms");
                    int arms = number(1, 999);
                    int hours = 4;
                    if (is("hours")) {
                        step();
                        hours = number(1, 24);
                    }
                    plan.boys.add(new Boy(name, arms, hours));
                    break;
                }
                case "holds": {
                    step();
                    int boy = boys.indexOf(name());
                    need(boy >= 0, 5);
                    step();
                    int kite = kites.indexOf(name());
                    need(kite >= 0, 5);
                    need(!plan.kites.get(kite).tied && !plan.holds.containsKey(kite), 3);
                    plan.holds.put(kite, boy);
                    step();
                    break;
                }
                case "wind":
                    need(plan.wind == null, 2);
                    step();
                    unitsHere = 0;
                    plan.wind = any(0);
                    break;
                case "lift":
                    need(plan.lift == null, 2);
                    step();
                    unitsHere = 0;
                    plan.lift = any(0);
                    break;
                case "gust":
                    need(!gustTold, 2);
                    gustTold = true;
                    step();
                    plan.gust = number(0, 100);
                    word("of");
                    plan.more = number(1, 20);
                    break;
                case "draw":
                    need(!drawTold, 2);
                    drawTold = true;
                    step();
                    plan.draw = number(0, 999);
                    break;
                default:
                    need(false, 2);
            }
        }

        boolean gustTold;
        boolean drawTold;

        Node any(int inside) throws Fault {
            Node left = both(inside);
            while (is("or")) {
                step();
                left = new Node("or", 0, left, both(inside));
            }
            return left;
        }

        Node both(int inside) throws Fault {
            Node left = one(inside);
            while (is("and")) {
                step();
                left = new Node("and", 0, left, one(inside));
            }
            return left;
        }

        Node one(int inside) throws Fault {
            if (is("not")) {
                need(inside <= 6, 2);
                step();
                return new Node("not", 0, one(inside + 1), null);
            }
            Node left = sum(inside);
            if (is("<") || is(">") || is("=")) {
                String op = token.text;
                step();
                return new Node(op, 0, left, sum(inside));
            }
            return left;
        }

        Node sum(int inside) throws Fault {
            Node left = term(inside);
            while (is("+") || is("-")) {
                String op = token.text;
                step();
                left = new Node(op, 0, left, term(inside));
            }
            return left;
        }

        Node term(int inside) throws Fault {
            Node left = unit(inside);
            while (is("*") || is("/") || is("%")) {
                String op = token.text;
                step();
                left = new Node(op, 0, left, unit(inside));
            }
            return left;
        }

        Node unit(int inside) throws Fault {
            need(unitsHere < 30 && plan.units < 60, 2);
            unitsHere++;
            plan.units++;
            Node node;
            if (is("(")) {
                need(inside <= 6, 2);
                step();
                node = any(inside + 1);
                need(is(")"), 2);
            } else if (token.kind == 'n') {
                node = new Node("n", Integer.parseInt(token.text), null, null);
            } else {
                need(token.kind == 'w' && Arrays.asList("height hour day size force near age".split(" "))
                    .contains(token.text), 2);
                node = new Node(token.text, 0, null, null);
            }
            step();
            return node;
        }
    }

    private static State first(Plan p) {
        State s = new State();
        int n = p.kites.size();
        s.height = new int[n];
        s.holder = new int[n];
        s.lost = new boolean[n];
        s.age = new int[n];
        s.left = new int[p.boys.size()];
        s.down = new int[p.roofs.size()];
        for (int k = 0; k < n; k++) {
            s.height[k] = p.kites.get(k).height;
            s.holder[k] = p.kites.get(k).tied ? -2 : p.holds.getOrDefault(k, -1);
        }
        for (int b = 0; b < s.left.length; b++) {
            s.left[b] = p.boys.get(b).hours;
        }
        s.seed = p.draw;
        return s;
    }

    int feed(int a, int b, int c, int d, int e) {
        if (tape.length + 20 > 1600) {
            return -1;
        }
        byte[] more = Arrays.copyOf(tape, tape.length + 20);
        int[] all = {a, b, c, d, e};
        for (int i = 0; i < 20; i++) {
            more[tape.length + i] = (byte) (all[i / 4] >>> 8 * (3 - i % 4));
        }
        tape = more;
        return tape.length;
    }

    int end(int n) {
        if (n < 0 || n > tape.length) {
            return -1;
        }
        tape = Arrays.copyOf(tape, n);
        return n;
    }

    int town() {
        byte[] text = tape;
        tape = new byte[0];
        try {
            plan = new Lines(text).read();
        } catch (Fault f) {
            fault = f.kind;
            faultPlace = f.place;
            return -1;
        }
        fault = 0;
        faultPlace = -1;
        forces.clear();
        now = first(plan);
        undo.clear();
        redo.clear();
        lying.clear();
        stolen.clear();
        untold.clear();
        Arrays.fill(boxes, null);
        return plan.kites.size();
    }

    int fault(int what) {
        return what == 0 ? fault : what == 1 ? faultPlace : -1;
    }

    // ---- what is

    /** Known forces of this TOWN, only so that thousands of runs are gone through in seconds. */
    private final Map<List<Integer>, Integer> forces = new HashMap<>();

    int forceOf(State s, int height, boolean gust) {
        return forces.computeIfAbsent(List.of(s.day, s.hour, height, gust ? 1 : 0), x -> forceAnew(s, height, gust));
    }

    private int forceAnew(State s, int height, boolean gust) {
        Map<String, Integer> v = new TreeMap<>();
        v.put("height", height);
        v.put("hour", s.hour);
        v.put("day", s.day);
        int wind = plan.wind == null ? 5 : plan.wind.of(v);
        if (gust) {
            wind = (int) ((long) wind + plan.more);
        }
        return wind < 0 ? 0 : wind > 20 ? 20 : wind;
    }

    boolean flies(State s, int k) {
        return !s.lost[k] && s.height[k] > 0;
    }

    int place(State s, int k, boolean gust) {
        int spool = plan.kites.get(k).spool;
        return flies(s, k) ? spool + forceOf(s, s.height[k], gust) * s.height[k] / 10 : spool;
    }

    boolean near(State s, int i, int j, boolean gust) {
        return i != j && flies(s, i) && flies(s, j) && Math.abs(s.height[i] - s.height[j]) < 2
            && Math.abs(place(s, i, gust) - place(s, j, gust)) < 3;
    }

    boolean cross(State s, int i, int j, boolean gust) {
        if (!flies(s, i) || !flies(s, j)) {
            return false;
        }
        int spools = Integer.compare(plan.kites.get(i).spool, plan.kites.get(j).spool);
        int places = Integer.compare(place(s, i, gust), place(s, j, gust));
        return spools * places < 0;
    }

    int lift(State s, int k, boolean gust, int law) {
        if (!flies(s, k)) {
            return 0;
        }
        int nears = 0;
        boolean crosses = false;
        for (int j = 0; j < plan.kites.size(); j++) {
            nears += near(s, k, j, gust) ? 1 : 0;
            crosses |= cross(s, k, j, gust);
        }
        Map<String, Integer> v = new TreeMap<>();
        v.put("height", s.height[k]);
        v.put("hour", s.hour);
        v.put("day", s.day);
        v.put("size", plan.kites.get(k).size);
        v.put("force", forceOf(s, s.height[k], gust));
        v.put("near", nears);
        v.put("age", s.age[k]);
        int lift = plan.lift == null ? v.get("size") * v.get("force") : plan.lift.of(v);
        lift = lift < 0 ? 0 : lift > 999 ? 999 : lift;
        return !crosses ? lift : law < 0 ? lift / 2 : lift * law / 10;
    }

    int load(State s, int boy, boolean gust, int law) {
        int load = 0;
        for (int k = 0; k < plan.kites.size(); k++) {
            load += s.holder[k] == boy ? lift(s, k, gust, law) : 0;
        }
        return load;
    }

    boolean held(State s, int k, boolean gust, int law) {
        if (s.holder[k] < 0) {
            return s.holder[k] == -2;
        }
        return s.left[s.holder[k]] > 0 && load(s, s.holder[k], gust, law) <= plan.boys.get(s.holder[k]).arms;
    }

    int bears(State s, int k) {
        int bears = plan.kites.get(k).cord - s.age[k] / 10;
        return bears < 0 ? 0 : bears;
    }

    int pull(State s, int k, boolean gust, int law) {
        int lift = lift(s, k, gust, law);
        return held(s, k, gust, law) && bears(s, k) >= lift ? lift : 0;
    }

    int pullOf(State s, int roof, boolean gust, int law) {
        int sum = 0;
        for (int k = 0; k < plan.kites.size(); k++) {
            sum += plan.kites.get(k).roof == roof ? pull(s, k, gust, law) : 0;
        }
        return sum;
    }

    int ups(State s, boolean gust, int law) {
        int bits = 0;
        for (int r = 0; r < plan.roofs.size(); r++) {
            bits |= pullOf(s, r, gust, law) >= plan.roofs.get(r).weight ? 1 << r : 0;
        }
        return bits;
    }

    int kite(int kite, int what) {
        if (kite < 0 || kite >= plan.kites.size()) {
            return -3;
        }
        switch (what) {
            case 0: return now.height[kite];
            case 1: return now.holder[kite];
            case 2: return now.lost[kite] ? 1 : 0;
            case 3: return now.age[kite];
            case 4: return place(now, kite, false);
            case 5: return lift(now, kite, false, -1);
            case 6: return flies(now, kite) && held(now, kite, false, -1) ? 1 : 0;
            case 7: return pull(now, kite, false, -1);
            case 8: return bears(now, kite);
            case 9: return plan.kites.get(kite).roof;
            default: return -3;
        }
    }

    int roof(int roof, int what) {
        if (roof < 0 || roof >= plan.roofs.size()) {
            return -1;
        }
        int bits = 0;
        for (int k = 0; k < plan.kites.size(); k++) {
            bits += plan.kites.get(k).roof == roof ? 1 << k : 0;
        }
        switch (what) {
            case 0: return plan.roofs.get(roof).weight;
            case 1: return pullOf(now, roof, false, -1);
            case 2: return up() >> roof & 1;
            case 3: return now.down[roof];
            case 4: return bits;
            case 5: return plan.roofs.get(roof).yard;
            default: return -1;
        }
    }

    int boy(int boy, int what) {
        if (boy < 0 || boy >= plan.boys.size()) {
            return -1;
        }
        int bits = 0;
        for (int k = 0; k < plan.kites.size(); k++) {
            bits += now.holder[k] == boy && flies(now, k) ? 1 << k : 0;
        }
        switch (what) {
            case 0: return plan.boys.get(boy).arms;
            case 1: return now.left[boy];
            case 2: return load(now, boy, false, -1);
            case 3: return bits;
            default: return -1;
        }
    }

    int force(int height, int gust) {
        return height < 1 || height > 9 || gust < 0 || gust > 1 ? -1 : forceOf(now, height, gust == 1);
    }

    int near(int kite, int what) {
        if (kite < 0 || kite >= plan.kites.size() || what < 0 || what > 1) {
            return -1;
        }
        int bits = 0;
        for (int k = 0; k < plan.kites.size(); k++) {
            bits |= (what == 0 ? near(now, kite, k, false) : cross(now, kite, k, false)) ? 1 << k : 0;
        }
        return bits;
    }

    int up() {
        return ups(now, false, -1);
    }

    // ---- ACTS

    private void act() {
        undo.add(now.copy());
        if (undo.size() > 40) {
            undo.remove(0);
        }
        redo.clear();
    }

    int fly(int kite, int height) {
        if (kite < 0 || kite >= plan.kites.size() || height < 0 || height > 9 || now.lost[kite]
            || now.height[kite] == height) {
            return -1;
        }
        act();
        int was = now.height[kite];
        now.height[kite] = height;
        return was;
    }

    int tie(int kite) {
        return hand(kite, -2);
    }

    int give(int kite, int boy) {
        return boy < -1 || boy >= plan.boys.size() ? -3 : hand(kite, boy);
    }

    private int hand(int kite, int to) {
        if (kite < 0 || kite >= plan.kites.size() || now.holder[kite] == to) {
            return -3;
        }
        act();
        int was = now.holder[kite];
        now.holder[kite] = to;
        return was;
    }

    int mend(int kite) {
        if (kite < 0 || kite >= plan.kites.size() || !now.lost[kite]) {
            return -1;
        }
        act();
        int age = now.age[kite];
        now.lost[kite] = false;
        now.age[kite] = 0;
        now.height[kite] = 0;
        return age;
    }

    private boolean gustNext(State s) {
        s.seed = (137 * s.seed + 71) % 1000;
        return s.seed % 100 < plan.gust;
    }

    /** The ROOFS that are UP in the HOUR. */
    private int pass(State s, boolean gust, int law) {
        State was = s.copy();
        int up = ups(was, gust, law);
        for (int r = 0; r < plan.roofs.size(); r++) {
            s.down[r] += (up >> r & 1) == 0 ? 1 : 0;
        }
        for (int b = 0; b < plan.boys.size(); b++) {
            boolean any = false;
            for (int k = 0; k < plan.kites.size(); k++) {
                any |= was.holder[k] == b && flies(was, k);
            }
            if (any && s.left[b] > 0) {
                s.left[b]--;
            }
        }
        for (int k = 0; k < plan.kites.size(); k++) {
            if (flies(was, k)) {
                s.age[k]++;
                if (held(was, k, gust, law) && bears(was, k) < lift(was, k, gust, law)) {
                    s.lost[k] = true;
                }
            }
        }
        s.hour = (s.hour + 1) % 24;
        if (s.hour == 0) {
            s.day++;
            for (int b = 0; b < plan.boys.size(); b++) {
                s.left[b] = plan.boys.get(b).hours;
            }
        }
        return up;
    }

    int hour() {
        if (now.hour == 23 && now.day == 999) {
            return -1;
        }
        act();
        int up = pass(now, gustNext(now), -1);
        return (1 << plan.roofs.size()) - 1 - up;
    }

    boolean undo() {
        if (undo.isEmpty()) {
            return false;
        }
        redo.add(now);
        now = undo.remove(undo.size() - 1);
        return true;
    }

    boolean redo() {
        if (redo.isEmpty()) {
            return false;
        }
        undo.add(now);
        now = redo.remove(redo.size() - 1);
        return true;
    }

    // ---- what comes

    int will(int n) {
        if (n < 1 || n > 60) {
            return -1;
        }
        State s = now.copy();
        int up = 0;
        for (int i = 0; i < n; i++) {
            up = pass(s, gustNext(s), -1);
        }
        return up;
    }

    int calm(int roof) {
        if (roof < 0 || roof >= plan.roofs.size()) {
            return -1;
        }
        State s = now.copy();
        for (int i = 0; i < 60; i++) {
            if ((pass(s, gustNext(s), -1) >> roof & 1) == 0) {
                return i;
            }
        }
        return -1;
    }

    int downs(int roof, int n) {
        if (roof < 0 || roof >= plan.roofs.size() || n < 0 || n > 60) {
            return -1;
        }
        State s = now.copy();
        int downs = 0;
        for (int i = 0; i < n; i++) {
            downs += (pass(s, gustNext(s), -1) >> roof & 1) == 0 ? 1 : 0;
        }
        return downs;
    }

    int best(int kite, int what) {
        if (kite < 0 || kite >= plan.kites.size() || what < 0 || what > 1 || now.lost[kite]) {
            return -1;
        }
        int best = -1;
        int most = -1;
        for (int h = 1; h <= 9; h++) {
            State s = now.copy();
            s.height[kite] = h;
            s.holder[kite] = -2;
            if (pull(s, kite, false, -1) > most) {
                most = pull(s, kite, false, -1);
                best = h;
            }
        }
        return what == 0 ? best : most;
    }

    int fewest(int roof, int what) {
        if (roof < 0 || roof >= plan.roofs.size() || what < 0 || what > 1) {
            return -1;
        }
        int best = -1;
        for (int set = 0; set < 1 << plan.kites.size(); set++) {
            State s = now.copy();
            boolean fits = true;
            for (int k = 0; k < plan.kites.size(); k++) {
                boolean own = plan.kites.get(k).roof == roof;
                boolean in = (set >> k & 1) == 1;
                fits &= !in || own && flies(now, k);
                if (own && !in) {
                    s.height[k] = 0;
                }
            }
            if (fits && (ups(s, false, -1) >> roof & 1) == 1
                && (best < 0 || Integer.bitCount(set) < Integer.bitCount(best))) {
                best = set;
            }
        }
        return best < 0 ? -1 : what == 0 ? Integer.bitCount(best) : best;
    }

    int crew(int what) {
        if (what < 0 || what > 1) {
            return -1;
        }
        List<Integer> kites = new ArrayList<>();
        for (int k = 0; k < plan.kites.size(); k++) {
            if (flies(now, k) && now.holder[k] != -2) {
                kites.add(lift(now, k, false, -1));
            }
        }
        int best = -1;
        for (int set = 0; set < 1 << plan.boys.size(); set++) {
            boolean rested = true;
            int[] room = new int[plan.boys.size()];
            for (int b = 0; b < room.length; b++) {
                boolean in = (set >> b & 1) == 1;
                rested &= !in || now.left[b] > 0;
                room[b] = in ? plan.boys.get(b).arms : -1;
            }
            if (rested && shared(kites, 0, room) && (best < 0 || Integer.bitCount(set) < Integer.bitCount(best))) {
                best = set;
            }
        }
        return best < 0 ? -1 : what == 0 ? Integer.bitCount(best) : best;
    }

    private static boolean shared(List<Integer> lifts, int i, int[] room) {
        if (i == lifts.size()) {
            return true;
        }
        for (int b = 0; b < room.length; b++) {
            if (room[b] >= lifts.get(i)) {
                room[b] -= lifts.get(i);
                boolean all = shared(lifts, i + 1, room);
                room[b] += lifts.get(i);
                if (all) {
                    return true;
                }
            }
        }
        return false;
    }

    int guard(int what) {
        int best = -1;
        int most = -1;
        for (int k = 0; k < plan.kites.size(); k++) {
            if (flies(now, k)) {
                State s = now.copy();
                s.height[k] = 0;
                int fallen = Integer.bitCount(up() & ~ups(s, false, -1));
                if (fallen > most) {
                    most = fallen;
                    best = k;
                }
            }
        }
        return what == 0 ? best : what == 1 ? most : -1;
    }

    int lend() {
        lying = new ArrayList<>();
        int roofs = plan.roofs.size();
        int kites = plan.kites.size();
        if (roofs == 0) {
            return -1;
        }
        int[] pulls = new int[kites];
        long ways = 1;
        for (int k = 0; k < kites; k++) {
            pulls[k] = pull(now, k, false, -1);
            ways *= roofs;
        }
        int most = -1;
        long first = 0;
        for (long way = 0; way < ways; way++) {
            int[] got = new int[roofs];
            long rest = way;
            for (int k = kites - 1; k >= 0; k--) {
                got[(int) (rest % roofs)] += pulls[k];
                rest /= roofs;
            }
            int up = 0;
            for (int r = 0; r < roofs; r++) {
                up += got[r] >= plan.roofs.get(r).weight ? 1 : 0;
            }
            if (up > most) {
                most = up;
                first = way;
            }
        }
        for (int k = 0; k < kites; k++) {
            lying.add(0, (int) (first % roofs));
            first /= roofs;
        }
        return most;
    }

    int odds(int roof, int n, int part) {
        if (roof < 0 || roof >= plan.roofs.size() || n < 0 || n > 4 || part < 0 || part > 1) {
            return -1;
        }
        BigInteger upper = BigInteger.ZERO;
        BigInteger lower = BigInteger.valueOf(100).pow(n);
        for (int gusts = 0; gusts < 1 << n; gusts++) {
            State s = now.copy();
            BigInteger weight = BigInteger.ONE;
            boolean up = true;
            for (int i = 0; i < n; i++) {
                boolean gust = (gusts >> i & 1) == 1;
                weight = weight.multiply(BigInteger.valueOf(gust ? plan.gust : 100 - plan.gust));
                up &= (pass(s, gust, -1) >> roof & 1) == 1;
            }
            upper = up ? upper.add(weight) : upper;
        }
        BigInteger gcd = upper.gcd(lower);
        return (part == 0 ? upper : lower).divide(gcd).intValueExact();
    }

    int law(int k) {
        if (k < 0 || k > 10) {
            return -1000;
        }
        State other = now.copy();
        State same = now.copy();
        int more = 0;
        for (int i = 0; i < 24; i++) {
            more -= Integer.bitCount(pass(other, gustNext(other), k));
            more += Integer.bitCount(pass(same, gustNext(same), -1));
        }
        return more;
    }

    int lies(int i) {
        return i < 0 || i >= lying.size() ? -1 : lying.get(i);
    }

    // ---- the stranger

    int stolen(int kite, boolean is) {
        if (kite < 0 || kite >= plan.kites.size() || stolen.size() == 30) {
            return -1;
        }
        stolen.add(new Stolen(kite, is, time));
        return stolen.size() - 1;
    }

    boolean untell(int number) {
        return number >= 0 && number < stolen.size() && untold.putIfAbsent(number, time) == null;
    }

    int later(int by) {
        if (by < 0 || by > 1000 || time + by > 100000) {
            return -1;
        }
        time += by;
        return time;
    }

    private boolean nearSpot(int kite, int place, int height) {
        return Math.abs(now.height[kite] - height) <= 1 && Math.abs(place(now, kite, false) - place) <= 2;
    }

    private List<int[]> all(int k) {
        List<int[]> spots = new ArrayList<>();
        for (int place = 0; place < 30; place++) {
            for (int height = 1; height < 10; height++) {
                boolean fits = true;
                for (int i = 0; i < stolen.size(); i++) {
                    Stolen one = stolen.get(i);
                    boolean counts = one.told <= k && !(untold.containsKey(i) && untold.get(i) <= k)
                        && flies(now, one.kite);
                    fits &= !counts || nearSpot(one.kite, place, height) == one.is;
                }
                if (fits) {
                    spots.add(new int[] {place, height});
                }
            }
        }
        return spots;
    }

    int spots(int k) {
        return all(k).size();
    }

    int sure(int k) {
        List<int[]> spots = all(k);
        if (spots.isEmpty()) {
            return -1;
        }
        int height = spots.get(0)[1];
        return spots.stream().allMatch(s -> s[1] == height) ? height : -2;
    }

    int ask(int what, int k) {
        List<int[]> spots = all(k);
        int best = -1;
        int fewest = -1;
        for (int kite = 0; kite < plan.kites.size() && !spots.isEmpty(); kite++) {
            if (!flies(now, kite)) {
                continue;
            }
            int near = 0;
            for (int[] s : spots) {
                near += nearSpot(kite, s[0], s[1]) ? 1 : 0;
            }
            int left = Math.max(near, spots.size() - near);
            if (best < 0 || left < fewest) {
                best = kite;
                fewest = left;
            }
        }
        return what == 0 ? best : what == 1 ? fewest : -1;
    }

    // ---- images

    int image(int box) {
        if (box < 0 || box > 2) {
            return -1;
        }
        boxes[box] = now.copy();
        return now.day;
    }

    int back(int box) {
        if (box < 0 || box > 2 || boxes[box] == null) {
            return -1;
        }
        now = boxes[box].copy();
        undo.clear();
        redo.clear();
        return now.day;
    }

    int about(int what) {
        int flying = 0;
        int lost = 0;
        for (int k = 0; k < plan.kites.size(); k++) {
            flying |= flies(now, k) ? 1 << k : 0;
            lost |= now.lost[k] ? 1 << k : 0;
        }
        int[] all = {plan.kites.size(), plan.roofs.size(), plan.boys.size(), now.hour, now.day, now.seed, flying, lost,
            undo.size(), redo.size(), stolen.size(), time, tape.length, plan.units, lying.size()};
        return what < 0 || what >= all.length ? -1 : all[what];
    }
}
