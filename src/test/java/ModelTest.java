import java.nio.charset.StandardCharsets;
import java.util.ArrayDeque;
import java.util.ArrayList;
import java.util.Arrays;
import java.util.Deque;
import java.util.List;
import java.util.Random;

/** Long runs of drawn calls: the program must answer each as the Model does. The draws are the same each time. */
public final class ModelTest {
    private static final int RUNS = Integer.getInteger("runs", 1500);
    private static final int CALLS = 150;

    private final Random random;
    private final KiteRoofs x = new KiteRoofs();
    private final Model model = new Model();
    private final Deque<String> log = new ArrayDeque<>();
    private int wrong = 0;

    private ModelTest(long seed) {
        random = new Random(seed);
    }

    public static void main(String[] args) {
        int from = Integer.getInteger("from", 0);
        int wrong = 0;
        for (int run = from; run < from + RUNS && wrong < 3; run++) {
            ModelTest test = new ModelTest(run);
            test.run();
            if (test.wrong > 0) {
                wrong++;
                System.out.println("in run " + run + ":");
                test.log.forEach(System.out::println);
            }
        }
        System.out.println("ModelTest: " + RUNS + " runs, " + wrong + " wrong");
        if (wrong > 0) {
            System.exit(1);
        }
    }

    private int below(int n) {
        return random.nextInt(n);
    }

    private boolean oneIn(int n) {
        return below(n) == 0;
    }

    private void run() {
        boolean waits = oneIn(3);
        for (int i = 0; i < CALLS && wrong == 0; i++) {
            if (i == 3 || oneIn(90)) {
                tellTown();
            } else if (oneIn(waits ? 3 : 20)) {
                passHours(1 + below(waits ? 30 : 3));
            } else {
                call();
            }
        }
    }

    private void passHours(int n) {
        for (int i = 0; i < n && wrong == 0; i++) {
            same("hour()", x.hour(), model.hour());
        }
    }

    private void same(String call, int got, int want) {
        log.add(call + " = " + got);
        if (log.size() > 60) {
            log.removeFirst();
        }
        if (got != want) {
            wrong++;
            log.add("   the Model answered " + want);
        }
    }

    private void same(String call, boolean got, boolean want) {
        same(call, got ? 1 : 0, want ? 1 : 0);
    }

    private void tellTown() {
        byte[] text = oneIn(8) ? brokenText() : townText().getBytes(StandardCharsets.ISO_8859_1);
        if (text.length > 1600) {
            return;
        }
        for (int i = 0; i < text.length; i += 20) {
            byte[] b = Arrays.copyOfRange(text, i, i + 20);
            int[] f = {Check.four(b, 0), Check.four(b, 4), Check.four(b, 8), Check.four(b, 12), Check.four(b, 16)};
            same("feed", x.feed(f[0], f[1], f[2], f[3], f[4]), model.feed(f[0], f[1], f[2], f[3], f[4]));
        }
        same("end(" + text.length + ")", x.end(text.length), model.end(text.length));
        same("town() of " + new String(text, StandardCharsets.ISO_8859_1), x.town(), model.town());
        same("fault(0)", x.fault(0), model.fault(0));
        same("fault(1)", x.fault(1), model.fault(1));
    }

    private byte[] brokenText() {
        byte[] text = townText().getBytes(StandardCharsets.ISO_8859_1);
        if (text.length == 0) {
            return text;
        }
        int at = below(text.length);
        switch (below(4)) {
            case 0:
                return Arrays.copyOf(text, at);
            case 1: {
                String with = "abz019;()<=+-*/% \n$A\u00e9".substring(below(20));
                text[at] = (byte) with.charAt(0);
                return text;
            }
            case 2: {
                byte[] less = Arrays.copyOf(text, text.length - 1);
                System.arraycopy(text, at + 1, less, at, text.length - at - 1);
                return less;
            }
            default: {
                String whole = new String(text, StandardCharsets.ISO_8859_1);
                String word = Model.WORDS.get(below(Model.WORDS.size()));
                return (whole.substring(0, at) + " " + word + " " + whole.substring(at))
                    .getBytes(StandardCharsets.ISO_8859_1);
            }
        }
    }

    private String townText() {
        List<String> names = new ArrayList<>(Arrays.asList("a", "red", "blue", "green", "grey", "tom", "lookhigh", "z"));
        int roofs = oneIn(20) ? 0 : 1 + below(4);
        int kites = roofs == 0 ? 0 : oneIn(10) ? below(9) : 2 + below(7);
        int boys = below(5);
        boolean heavy = oneIn(5);
        boolean steady = !oneIn(3);
        StringBuilder text = new StringBuilder();
        for (int r = 0; r < roofs; r++) {
            int weight = oneIn(10) ? 0 : heavy ? below(1000) : below(steady ? 25 : 60);
            text.append("roof ").append(names.get(r)).append(" at ").append(below(20)).append(" weight ").append(weight)
                .append(";");
        }
        int yards = oneIn(2) ? 20 : 6;
        List<Integer> free = new ArrayList<>();
        for (int k = 0; k < kites; k++) {
            text.append("kite ").append(names.get(k)).append(" of ").append(names.get(below(roofs))).append(" at ")
                .append(below(yards)).append(" size ").append(1 + below(9)).append(" cord ")
                .append(1 + below(heavy ? 999 : steady ? 200 : 60));
            if (!oneIn(5)) {
                text.append(" height ").append(below(10));
            }
            if (oneIn(3)) {
                text.append(" tied");
            } else {
                free.add(k);
            }
            text.append(oneIn(3) ? ";\n" : ";");
        }
        for (int b = 0; b < boys; b++) {
            text.append("boy ").append(names.get(b)).append(" arms ").append(1 + below(heavy ? 999 : steady ? 200 : 50));
            if (oneIn(2)) {
                text.append(" hours ").append(1 + below(24));
            }
            text.append(";");
        }
        for (int k : free) {
            if (boys > 0 && !oneIn(6)) {
                text.append("holds ").append(names.get(below(boys))).append(' ').append(names.get(k)).append(";");
            }
        }
        if (!oneIn(3)) {
            text.append("wind ").append(steady ? usual(WINDS) : any(3)).append(";");
        }
        if (oneIn(2)) {
            text.append("lift ").append(steady ? usual(LIFTS) : any(3)).append(";");
        }
        if (!oneIn(4)) {
            text.append("gust ").append(below(101)).append(" of ").append(1 + below(20)).append(";");
        }
        if (!oneIn(4)) {
            text.append("draw ").append(below(1000)).append(" ;");
        }
        return text.toString();
    }

    private static final String[] WINDS = {
        "height+hour%3", "10-height", "3+(hour>6 and hour<19)*5", "hour%5*2+day%3", "12-(height>4)*9", "15",
        "not (hour=3)*7+height/2", "height*(1+hour%2)", "20-hour"};
    private static final String[] LIFTS = {
        "size*force-near*3", "size*force/(1+near)", "height*size+age", "size*(force+near*2)", "60-age*3",
        "force*2+size", "(force>6 or near>0)*25+age%4", "size+hour*day"};

    private String usual(String[] texts) {
        return texts[below(texts.length)];
    }

    private String any(int depth) {
        switch (below(depth > 0 ? 16 : 6)) {
            case 0: case 1: return String.valueOf(oneIn(9) ? below(10000) : below(12));
            case 2: return oneIn(2) ? "hour" : "height";
            case 3: return oneIn(3) ? "day" : "force";
            case 4: return oneIn(2) ? "size" : "near";
            case 5: return oneIn(3) ? "age" : "size*force";
            case 6: return "(" + any(depth - 1) + ")";
            case 7: return "not " + any(depth - 1);
            case 8: return any(depth - 1) + " or " + any(depth - 1);
            case 9: return any(depth - 1) + " and " + any(depth - 1);
            case 10: return "(" + any(depth - 1) + ")" + "<>=".charAt(below(3)) + "(" + any(depth - 1) + ")";
            case 11: return any(depth - 1) + "/" + any(depth - 1);
            case 12: return any(depth - 1) + "%" + any(depth - 1);
            case 13: return any(depth - 1) + "-" + any(depth - 1);
            case 14: return any(depth - 1) + "*" + any(depth - 1);
            default: return any(depth - 1) + "+" + any(depth - 1);
        }
    }

    private int kite() {
        return oneIn(12) ? below(12) - 2 : below(Math.max(1, model.about(0)));
    }

    private int roof() {
        return oneIn(12) ? below(8) - 2 : below(Math.max(1, model.about(1)));
    }

    private int boy() {
        return oneIn(4) ? below(8) - 3 : below(Math.max(1, model.about(2)));
    }

    private int what(int n) {
        return oneIn(15) ? below(n + 4) - 2 : below(n);
    }

    private void call() {
        switch (below(5)) {
            case 0: case 1: callNow(); break;
            case 2: callAct(); break;
            case 3: callPlan(); break;
            default: callStranger(); break;
        }
    }

    private void callNow() {
        int a = kite();
        int r = roof();
        int b = boy();
        int w = what(10);
        switch (below(9)) {
            case 0: case 1: same("kite(" + a + ", " + w + ")", x.kite(a, w), model.kite(a, w)); break;
            case 2: same("roof(" + r + ", " + w + ")", x.roof(r, w), model.roof(r, w)); break;
            case 3: w = what(4); same("boy(" + b + ", " + w + ")", x.boy(b, w), model.boy(b, w)); break;
            case 4: w = what(2); same("force(" + a + ", " + w + ")", x.force(a, w), model.force(a, w)); break;
            case 5: w = what(2); same("near(" + a + ", " + w + ")", x.near(a, w), model.near(a, w)); break;
            case 6: same("up()", x.up(), model.up()); break;
            case 7: same("lies(" + a + ")", x.lies(a), model.lies(a)); break;
            default: w = what(15); same("about(" + w + ")", x.about(w), model.about(w)); break;
        }
    }

    private void callAct() {
        int a = kite();
        int b = boy();
        int w = what(10);
        switch (below(12)) {
            case 0: case 1: same("fly(" + a + ", " + w + ")", x.fly(a, w), model.fly(a, w)); break;
            case 2: same("tie(" + a + ")", x.tie(a), model.tie(a)); break;
            case 3: case 4: same("give(" + a + ", " + b + ")", x.give(a, b), model.give(a, b)); break;
            case 5: same("mend(" + a + ")", x.mend(a), model.mend(a)); break;
            case 6: case 7: same("undo()", x.undo(), model.undo()); break;
            case 8: case 9: same("redo()", x.redo(), model.redo()); break;
            case 10: w = what(3); same("image(" + w + ")", x.image(w), model.image(w)); break;
            default: w = what(3); same("back(" + w + ")", x.back(w), model.back(w)); break;
        }
    }

    private void callPlan() {
        int a = kite();
        int r = roof();
        int w = what(2);
        int n = what(61);
        switch (below(11)) {
            case 0: same("will(" + n + ")", x.will(n), model.will(n)); break;
            case 1: same("calm(" + r + ")", x.calm(r), model.calm(r)); break;
            case 2: same("downs(" + r + ", " + n + ")", x.downs(r, n), model.downs(r, n)); break;
            case 3: same("best(" + a + ", " + w + ")", x.best(a, w), model.best(a, w)); break;
            case 4: case 5: same("fewest(" + r + ", " + w + ")", x.fewest(r, w), model.fewest(r, w)); break;
            case 6: same("crew(" + w + ")", x.crew(w), model.crew(w)); break;
            case 7: same("guard(" + w + ")", x.guard(w), model.guard(w)); break;
            case 8: lend(); break;
            case 9: n = what(5); same("odds(" + r + ", " + n + ", " + w + ")", x.odds(r, n, w), model.odds(r, n, w)); break;
            default: w = what(11); same("law(" + w + ")", x.law(w), model.law(w)); break;
        }
    }

    private void lend() {
        same("lend()", x.lend(), model.lend());
        for (int i = 0; i < 9; i++) {
            same("lies(" + i + ")", x.lies(i), model.lies(i));
        }
    }

    private void callStranger() {
        int a = kite();
        int w = what(2);
        int s = below(Math.max(1, model.about(10)) + 2) - 1;
        boolean is = oneIn(2);
        int k = oneIn(10) ? below(3000) - 200 : model.about(11) - below(5);
        if (oneIn(3) && model.about(0) > 0) {
            // One that can be: what is told fits a kite that flies near another one.
            is = (model.near(below(model.about(0)), 0) >> Math.max(0, a) & 1) == 1;
        }
        switch (below(8)) {
            case 0: case 1: same("stolen(" + a + ", " + is + ")", x.stolen(a, is), model.stolen(a, is)); break;
            case 2: same("untell(" + s + ")", x.untell(s), model.untell(s)); break;
            case 3: {
                int by = oneIn(8) ? below(1400) - 200 : below(3);
                same("later(" + by + ")", x.later(by), model.later(by));
                break;
            }
            case 4: same("spots(" + k + ")", x.spots(k), model.spots(k)); break;
            case 5: same("sure(" + k + ")", x.sure(k), model.sure(k)); break;
            default: same("ask(" + w + ", " + k + ")", x.ask(w, k), model.ask(w, k)); break;
        }
    }
}
