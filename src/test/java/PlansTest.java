/** Promises 22 to 26 and 29: best, fewest, crew, guard, lend, lies. */
public final class PlansTest {
    private static final Check CHECK = new Check();

    public static void main(String[] args) {
        best();
        bestAmongOthers();
        fewest();
        fewestByLanding();
        crew();
        crewIsPacked();
        guard();
        lend();
        lendIsTheFirst();
        wrongInputs();
        CHECK.finish("PlansTest");
    }

    private static void best() {
        KiteRoofs x = Check.with("roof r at 0 weight 5;kite a of r at 0 size 2 cord 13 height 4;"
            + "kite b of r at 9 size 1 cord 1 height 1 tied;kite c of r at 19 size 1 cord 99;"
            + "wind 7-(height-5)*(height-5);boy tom arms 1;holds tom a;");
        // a would lift 2 * 7 at height 5, more than its cord bears; 12 at 4 and 6: the first counts.
        CHECK.due("height", x.best(0, 0), 4);
        CHECK.due("what it PULLS", x.best(0, 1), 12);
        CHECK.due("as it is now tom can't hold it", x.kite(0, 7), 0);
        CHECK.due("cord 1: nothing but lifts of 0 and 1", x.best(1, 0), 1);
        CHECK.due("it PULLS 0 everywhere", x.best(1, 1), 0);
        CHECK.due("one that is landed", x.best(2, 0), 5);
        CHECK.due("one that is landed", x.best(2, 1), 7);
        CHECK.due("nothing is done", x.kite(2, 0), 0);
        CHECK.due("nothing is done", x.kite(0, 1), 0);
        x.hour();
        CHECK.due("b is not LOST", x.about(7), 0);
        x.fly(1, 5);
        x.hour();
        CHECK.due("b is LOST", x.about(7), 2);
        CHECK.due("LOST", x.best(1, 0), -1);
        CHECK.due("LOST", x.best(1, 1), -1);
    }

    private static void bestAmongOthers() {
        // b flies at height 5; to be NEAR it halves.
        KiteRoofs x = Check.with("roof r at 0 weight 5;kite a of r at 5 size 1 cord 99;kite b of r at 5 size 1 cord 99 height 5;"
            + "wind 1;lift height*10/(1+near);");
        CHECK.due("height 9", x.best(0, 0), 9);
        x.fly(1, 9);
        CHECK.due("height 7", x.best(0, 0), 7);
        CHECK.due("70", x.best(0, 1), 70);
        x.fly(1, 0);
        CHECK.due("height 9 again", x.best(0, 1), 90);
    }

    private static void fewest() {
        KiteRoofs x = Check.with("roof r at 0 weight 20;roof q at 0 weight 0;roof p at 0 weight 99;"
            + "kite a of r at 0 size 1 cord 99 height 1 tied;"
            + "kite b of r at 4 size 3 cord 99 height 1 tied;"
            + "kite c of p at 8 size 9 cord 99 height 1 tied;"
            + "kite d of r at 12 size 1 cord 99 height 1 tied;"
            + "kite e of r at 16 size 2 cord 99 height 1 tied;"
            + "kite f of r at 19 size 9 cord 99 tied;");
        CHECK.due("two: a and b, b and d, b and e", x.fewest(0, 0), 2);
        CHECK.due("the least set", x.fewest(0, 1), 3);
        CHECK.due("weight 0 needs none", x.fewest(1, 0), 0);
        CHECK.due("weight 0 needs none", x.fewest(1, 1), 0);
        CHECK.due("not enough", x.fewest(2, 0), -1);
        CHECK.due("not enough", x.fewest(2, 1), -1);
        x.fly(1, 0);
        CHECK.due("three", x.fewest(0, 0), 3);
        CHECK.due("a, d, e", x.fewest(0, 1), 25);
        x.fly(5, 1);
        CHECK.due("one", x.fewest(0, 0), 1);
        CHECK.due("f", x.fewest(0, 1), 32);
        CHECK.due("nothing is done", x.about(6), 61);
    }

    private static String eight() {
        StringBuilder text = new StringBuilder();
        for (int k = 0; k < 8; k++) {
            text.append("kite ").append((char) ('a' + k)).append(" of r at ").append(2 * k)
                .append(" size 1 cord 99 height 1 tied;");
        }
        return text.toString();
    }

    private static void fewestByLanding() {
        KiteRoofs all = Check.with("roof r at 0 weight 40;" + eight());
        CHECK.due("all eight", all.fewest(0, 0), 8);
        CHECK.due("all eight", all.fewest(0, 1), 255);
        // tom is too weak for both; with the other one landed he holds one.
        KiteRoofs x = Check.with("roof r at 0 weight 5;kite a of r at 0 size 1 cord 99 height 1;"
            + "kite b of r at 9 size 1 cord 99 height 1;boy tom arms 9;holds tom a;holds tom b;");
        CHECK.due("DOWN now", x.up(), 0);
        CHECK.due("one", x.fewest(0, 0), 1);
        CHECK.due("a", x.fewest(0, 1), 1);
        // Another ROOF's KITE is not landed: it still weighs on tom.
        x = Check.with("roof r at 0 weight 5;roof q at 0 weight 5;kite a of r at 0 size 1 cord 99 height 1;"
            + "kite b of q at 9 size 1 cord 99 height 1;boy tom arms 9;holds tom a;holds tom b;");
        CHECK.due("none is enough", x.fewest(0, 0), -1);
    }

    private static void crew() {
        KiteRoofs x = Check.with("roof r at 0 weight 5;"
            + "kite a of r at 0 size 1 cord 99 height 1;"
            + "kite b of r at 6 size 1 cord 99 height 1;"
            + "kite c of r at 12 size 2 cord 99 height 1 tied;"
            + "kite d of r at 18 size 9 cord 99;"
            + "boy tom arms 5 hours 1;boy ned arms 10;boy jim arms 9;boy joe arms 10;");
        CHECK.due("ned alone", x.crew(0), 1);
        CHECK.due("ned", x.crew(1), 2);
        x.give(2, -1);
        CHECK.due("two more", x.crew(0), 2);
        CHECK.due("ned and joe", x.crew(1), 10);
        x.fly(3, 1);
        CHECK.due("45 are too many", x.crew(0), -1);
        CHECK.due("45 are too many", x.crew(1), -1);
        x.tie(3);
        CHECK.due("tied ones do not count", x.crew(1), 10);
        x.tie(0);
        x.tie(1);
        x.tie(2);
        CHECK.due("none to be held", x.crew(0), 0);
        CHECK.due("none to be held", x.crew(1), 0);
        x.give(0, 0);
        CHECK.due("tom", x.crew(1), 1);
        x.hour();
        CHECK.due("tom has no hours left", x.crew(1), 2);
        CHECK.due("a LIFT of 0 is to be held, too",
            Check.with("roof r at 0 weight 5;kite a of r at 0 size 1 cord 9 height 1;lift 0;boy t arms 1;").crew(0), 1);
        CHECK.due("nobody there",
            Check.with("roof r at 0 weight 5;kite a of r at 0 size 1 cord 9 height 1;lift 0;").crew(0), -1);
        CHECK.due("nobody needed", new KiteRoofs().crew(1), 0);
    }

    private static void crewIsPacked() {
        // LIFTS 1 to 8; 36 in all: arms 12, 12 and 12 take 8+4, 7+5, 6+3+2+1; no greedy order by number does.
        StringBuilder text = new StringBuilder("roof r at 0 weight 5;lift size;wind 0;");
        for (int k = 1; k <= 8; k++) {
            text.append("kite ").append((char) ('a' + k)).append(" of r at ").append(2 * k).append(" size ").append(k)
                .append(" cord 9 height 1;");
        }
        CHECK.due("all three", Check.with(text + "boy x arms 12;boy y arms 12;boy z arms 12;").crew(1), 7);
        CHECK.due("one too few", Check.with(text + "boy x arms 12;boy y arms 11;boy z arms 12;").crew(1), -1);
        CHECK.due("the four", Check.with(text + "boy w arms 3;boy x arms 12;boy y arms 9;boy z arms 12;").crew(1), 15);
        CHECK.due("the last two", Check.with(text + "boy w arms 35;boy x arms 2;boy y arms 3;boy z arms 33;").crew(1), 3);
        CHECK.due("the first of like ones", Check.with(text + "boy w arms 4;boy x arms 18;boy y arms 18;boy z arms 36;")
            .crew(1), 8);
    }

    private static void guard() {
        KiteRoofs x = Check.with("roof r at 0 weight 5;roof q at 0 weight 10;roof p at 0 weight 5;roof o at 0 weight 99;"
            + "kite a of r at 0 size 2 cord 99 height 1 tied;"
            + "kite b of r at 4 size 2 cord 99 height 1 tied;"
            + "kite c of o at 8 size 1 cord 99 height 1 tied;"
            + "kite d of q at 12 size 2 cord 99 height 1 tied;"
            + "kite e of p at 16 size 1 cord 99 height 1 tied;");
        CHECK.due("d, the first of d and e", x.guard(0), 3);
        CHECK.due("one ROOF", x.guard(1), 1);
        x.fly(3, 0);
        CHECK.due("e", x.guard(0), 4);
        x.fly(4, 0);
        CHECK.due("a, by which nothing falls", x.guard(0), 0);
        CHECK.due("no ROOF", x.guard(1), 0);
        x.fly(0, 0);
        CHECK.due("b", x.guard(0), 1);
        x.fly(1, 0);
        x.fly(2, 0);
        CHECK.due("none FLIES", x.guard(0), -1);
        CHECK.due("none FLIES", x.guard(1), -1);
        // c lifts nothing itself; but all that are NEAR it lift by it: both ROOFS fall with it.
        x = Check.with("roof r at 0 weight 5;roof q at 0 weight 5;kite a of r at 4 size 1 cord 99 height 1 tied;"
            + "kite b of q at 8 size 1 cord 99 height 1 tied;kite c of q at 6 size 1 cord 99 height 2;"
            + "wind 1;lift near*5;");
        CHECK.due("c", x.guard(0), 2);
        CHECK.due("both", x.guard(1), 2);
        CHECK.due("nothing is done", x.up(), 3);
        // One that was DOWN and would be UP does not count.
        x = Check.with("roof r at 0 weight 5;kite a of r at 0 size 1 cord 99 height 1;"
            + "kite b of r at 9 size 1 cord 99 height 1;boy tom arms 9;holds tom a;holds tom b;");
        CHECK.due("a", x.guard(0), 0);
        CHECK.due("none", x.guard(1), 0);
    }

    private static void lies(KiteRoofs x, int... due) {
        CHECK.due("how many lie there", x.about(14), due.length);
        for (int i = 0; i < due.length; i++) {
            CHECK.due("lies(" + i + ")", x.lies(i), due[i]);
        }
        CHECK.due("none behind", x.lies(due.length), -1);
        CHECK.due("none ahead", x.lies(-1), -1);
    }

    private static void lend() {
        KiteRoofs x = new KiteRoofs();
        CHECK.due("without ROOFS", x.lend(), -1);
        lies(x);
        x = Check.with("roof r at 0 weight 0;roof q at 0 weight 1;");
        CHECK.due("without KITES", x.lend(), 1);
        lies(x);
        x = Check.with("roof r at 0 weight 30;roof q at 0 weight 10;roof p at 0 weight 15;"
            + "kite a of r at 0 size 1 cord 99 height 1 tied;"
            + "kite b of r at 6 size 2 cord 99 height 1 tied;"
            + "kite c of r at 12 size 3 cord 99 height 1 tied;"
            + "kite d of r at 18 size 9 cord 99 height 1;");
        // PULLS 5, 10, 15, 0: q by b, p by c, or q by c, p by a and b.
        CHECK.due("two", x.lend(), 2);
        lies(x, 0, 1, 2, 0);
        x.tie(3);
        CHECK.due("it lies there still", x.lies(1), 1);
        CHECK.due("all three", x.lend(), 3);
        lies(x, 0, 1, 2, 0);
        CHECK.due("nothing is done", x.kite(1, 9), 0);
        for (int k = 0; k < 4; k++) {
            x.fly(k, 0);
        }
        CHECK.due("none", x.lend(), 0);
        lies(x, 0, 0, 0, 0);
    }

    private static void lendIsTheFirst() {
        // PULLS 5, 5, 5, 5 for weights 10, 10: KITE by KITE the first is 0 0 1 1.
        String kites = "kite a of r at 0 size 1 cord 99 height 1 tied;kite b of r at 6 size 1 cord 99 height 1 tied;"
            + "kite c of r at 12 size 1 cord 99 height 1 tied;kite d of r at 18 size 1 cord 99 height 1 tied;";
        KiteRoofs x = Check.with("roof r at 0 weight 10;roof q at 0 weight 10;" + kites);
        CHECK.due("both", x.lend(), 2);
        lies(x, 0, 0, 1, 1);
        x = Check.with("roof r at 0 weight 15;roof q at 0 weight 5;" + kites);
        CHECK.due("both", x.lend(), 2);
        lies(x, 0, 0, 0, 1);
        x = Check.with("roof r at 0 weight 5;roof q at 0 weight 10;" + kites);
        CHECK.due("both", x.lend(), 2);
        lies(x, 0, 0, 1, 1);
        x = Check.with("roof r at 0 weight 5;roof q at 0 weight 15;" + kites);
        CHECK.due("both", x.lend(), 2);
        lies(x, 0, 1, 1, 1);
        x = Check.with("roof r at 0 weight 99;roof q at 0 weight 5;roof p at 0 weight 5;" + kites);
        CHECK.due("two", x.lend(), 2);
        lies(x, 0, 0, 1, 2);
        x = Check.with("roof r at 0 weight 10;roof q at 0 weight 10;roof p at 0 weight 10;roof o at 0 weight 10;" + eight());
        CHECK.due("all four", x.lend(), 4);
        lies(x, 0, 0, 1, 1, 2, 2, 3, 3);
    }

    private static void wrongInputs() {
        KiteRoofs x = Check.with("roof r at 0 weight 0;kite a of r at 0 size 1 cord 9 height 1;boy b arms 99;");
        int[] wrong = {Integer.MIN_VALUE, -1, 2, 8, Integer.MAX_VALUE};
        for (int w : wrong) {
            CHECK.due("best of " + w, x.best(w, 0), -1);
            CHECK.due("best what " + w, x.best(0, w), -1);
            CHECK.due("fewest of " + w, x.fewest(w, 0), -1);
            CHECK.due("fewest what " + w, x.fewest(0, w), -1);
            CHECK.due("crew what " + w, x.crew(w), -1);
            CHECK.due("guard what " + w, x.guard(w), -1);
            CHECK.due("lies " + w, x.lies(w), -1);
        }
        CHECK.due("best of 1", x.best(1, 0), -1);
        CHECK.due("fewest of 1", x.fewest(1, 0), -1);
    }
}
