/** The edges of promises 12 to 18 and 36 to 38: ACTS, HOURS, UNDO and REDO, images, about. */
final class EdgesOfActs {
    // a lifts 5 and its cord bears 4: it is LOST in the first HOUR. b is tom's, c is landed and neither.
    private static final String TOWN = "roof r at 0 weight 6;roof s at 0 weight 0;"
        + "kite a of r at 0 size 1 cord 4 height 1 tied;"
        + "kite b of r at 6 size 1 cord 99 height 2;"
        + "kite c of r at 12 size 1 cord 99;"
        + "boy tom arms 9 hours 2;boy ned arms 4;holds tom b;";

    private final Check check;

    EdgesOfActs(Check check) {
        this.check = check;
    }

    void all() {
        fly();
        tie();
        give();
        mend();
        hourAnswers();
        seeds();
        lookedAtAsItIsThen();
        hoursLeft();
        lost();
        days();
        undo();
        redo();
        fortyAreKept();
        image();
        back();
        fullTown();
        about();
    }

    private static KiteRoofs town() {
        return Check.with(TOWN);
    }

    private static void pass(KiteRoofs x, int hours) {
        for (int i = 0; i < hours; i++) {
            x.hour();
        }
    }

    private void fly() {
        check.says(12, "A KITE is flown at a height (0 .. 9): at which it was");
        KiteRoofs x = town();
        check.due("from 0 to 9", x.fly(2, 9), 0);
        check.due("it is at", x.kite(2, 0), 9);
        check.due("from 9 to 0", x.fly(2, 0), 9);
        check.due("landed", x.kite(2, 0), 0);
        check.due("from 0 to 1", x.fly(2, 1), 0);
        check.due("it FLIES", x.about(6), 7);

        check.says(12, "ACTS: a KITE that is not LOST is flown at a height, or landed; it is tied; it is given to a BOY; it is let "
            + "go (neither then)");
        x = town();
        x.fly(1, 9);
        check.due("flown", x.about(8), 1);
        x.fly(1, 0);
        check.due("landed", x.about(8), 2);
        x.tie(1);
        check.due("tied", x.about(8), 3);
        x.give(1, 0);
        check.due("given", x.about(8), 4);
        x.give(1, -1);
        check.due("let go", x.about(8), 5);
        check.due("neither then", x.kite(1, 1), -1);

        check.says(12, "NONE, doing nothing, if it is LOST, it is the same, or one can't be. (An ACT.)");
        x = town();
        check.due("the same", x.fly(1, 2), -1);
        check.due("landed already", x.fly(2, 0), -1);
        check.due("height 10", x.fly(1, 10), -1);
        check.due("height -1", x.fly(1, -1), -1);
        check.due("behind the last KITE", x.fly(3, 1), -1);
        check.due("KITE -1", x.fly(-1, 1), -1);
        for (int wrong : Check.FAR) {
            check.due("fly(" + wrong + ", 1)", x.fly(wrong, 1), -1);
            check.due("fly(1, " + wrong + ")", x.fly(1, wrong), -1);
        }
        check.due("nothing was done", x.about(8), 0);
        check.due("its height", x.kite(1, 0), 2);
        x.hour();
        check.due("LOST, at another height", x.fly(0, 2), -1);
        check.due("LOST, landed", x.fly(0, 0), -1);
        check.due("its height", x.kite(0, 0), 1);
        check.due("the HOUR is the one ACT", x.about(8), 1);
        x.fly(1, 3);
        check.due("an ACT", x.about(8), 2);
        x.undo();
        check.due("undone", x.kite(1, 0), 2);
        check.due("in an empty TOWN", new KiteRoofs().fly(0, 1), -1);
    }

    private void tie() {
        check.says(13, "A KITE is tied: who had it (-2, the BOY, NONE)");
        KiteRoofs x = town();
        check.due("the BOY", x.tie(1), 0);
        check.due("NONE", x.tie(2), -1);
        check.due("tied", x.kite(2, 1), -2);
        x.give(1, 1);
        check.due("the last BOY", x.tie(1), 1);

        check.says(13, "-3, doing nothing, if it is so already, or there is none such. (An ACT.)");
        x = town();
        check.due("so already", x.tie(0), -3);
        check.due("behind the last KITE", x.tie(3), -3);
        check.due("KITE -1", x.tie(-1), -3);
        for (int wrong : Check.FAR) {
            check.due("tie(" + wrong + ")", x.tie(wrong), -3);
        }
        check.due("nothing was done", x.about(8), 0);
        x.tie(1);
        check.due("an ACT", x.about(8), 1);
        x.undo();
        check.due("tom has it again", x.kite(1, 1), 0);
        check.due("in an empty TOWN", new KiteRoofs().tie(0), -3);
        x.hour();
        x.give(0, -1);
        check.due("one that is LOST is tied, too", x.tie(0), -1);
    }

    private void give() {
        check.says(14, "A KITE is given to a BOY (NONE: it is let go): who had it, likewise");
        KiteRoofs x = town();
        check.due("tied before", x.give(0, 1), -2);
        check.due("from the last BOY to the first", x.give(0, 0), 1);
        check.due("let go", x.give(0, KiteRoofs.NONE), 0);
        check.due("neither", x.kite(0, 1), -1);
        check.due("neither before", x.give(0, 1), -1);
        x.tie(0);
        check.due("let go what was tied", x.give(0, KiteRoofs.NONE), -2);

        check.says(14, "-3, doing nothing, if it is so already, or one can't be. (An ACT.)");
        x = town();
        check.due("his already", x.give(1, 0), -3);
        check.due("let go already", x.give(2, -1), -3);
        check.due("behind the last BOY", x.give(1, 2), -3);
        check.due("BOY -2", x.give(1, -2), -3);
        check.due("tied is no BOY", x.give(0, -2), -3);
        check.due("behind the last KITE", x.give(3, 0), -3);
        check.due("KITE -1", x.give(-1, 0), -3);
        check.due("no such KITE let go", x.give(3, -1), -3);
        for (int wrong : Check.FAR) {
            check.due("give(" + wrong + ", 0)", x.give(wrong, 0), -3);
            check.due("give(1, " + wrong + ")", x.give(1, wrong), -3);
        }
        check.due("nothing was done", x.about(8), 0);
        check.due("tom has it", x.kite(1, 1), 0);
        x.give(1, 1);
        check.due("an ACT", x.about(8), 1);
        x.undo();
        check.due("tom has it again", x.kite(1, 1), 0);
        check.due("without BOYS", Check.with("roof r at 0 weight 0;kite a of r at 0 size 1 cord 1;").give(0, 0), -3);
        x.hour();
        check.due("one that is LOST is given, too", x.give(0, 1), -2);
    }

    private void mend() {
        check.says(15, "one that is LOST is mended (not LOST, AGE 0, landed)");
        KiteRoofs x = town();
        x.hour();
        check.due("LOST", x.kite(0, 2), 1);
        check.due("at height 1", x.kite(0, 0), 1);
        check.due("its AGE that was", x.mend(0), 1);
        check.due("not LOST", x.kite(0, 2), 0);
        check.due("AGE 0", x.kite(0, 3), 0);
        check.due("landed", x.kite(0, 0), 0);
        check.due("tied as before", x.kite(0, 1), -2);

        check.says(15, "NONE, doing nothing, if it is not LOST, or there is none such. (An ACT.)");
        check.due("an ACT", x.about(8), 2);
        check.due("mended already", x.mend(0), -1);
        check.due("never LOST", x.mend(1), -1);
        check.due("behind the last KITE", x.mend(3), -1);
        check.due("KITE -1", x.mend(-1), -1);
        for (int wrong : Check.FAR) {
            check.due("mend(" + wrong + ")", x.mend(wrong), -1);
        }
        check.due("nothing was done", x.about(8), 2);
        check.due("AGE of b", x.kite(1, 3), 1);
        x.undo();
        check.due("LOST again", x.kite(0, 2), 1);
        check.due("in an empty TOWN", new KiteRoofs().mend(0), -1);
    }

    private void hourAnswers() {
        check.says(16, "An HOUR: ROOFS that were DOWN in it, as bits");
        check.due("without ROOFS", new KiteRoofs().hour(), 0);
        check.due("the first", town().hour(), 1);
        String four = "roof a at 0 weight 1;roof b at 0 weight 1;roof c at 0 weight 1;roof d at 0 weight 1;";
        check.due("all four", Check.with(four).hour(), 15);
        check.due("none", Check.with(four.replace("weight 1", "weight 0")).hour(), 0);

        check.says(16, "NONE, doing nothing, in hour 23 of day 999. (An ACT.)");
        KiteRoofs x = Check.with("roof r at 0 weight 1;");
        pass(x, 23998);
        check.due("hour 22 of day 999", x.about(3) + 100 * x.about(4), 22 + 100 * 999);
        check.due("an HOUR", x.hour(), 1);
        int seed = x.about(5);
        check.due("in hour 23 of day 999", x.hour(), -1);
        check.due("hour 23", x.about(3), 23);
        check.due("day 999", x.about(4), 999);
        check.due("SEED", x.about(5), seed);
        check.due("DOWN", x.roof(0, 3), 23999);
        check.due("an ACT", x.undo(), true);
        check.due("hour 22", x.about(3), 22);
        x.hour();
        x.undo();
        check.due("nothing done keeps what can be redone", x.redo(), true);
        x.undo();
        check.due("in hour 22 of day 999 it can be", x.hour(), 1);
        x = Check.with("roof r at 0 weight 1;");
        pass(x, 23);
        check.due("in hour 23 of another day", x.hour(), 1);
    }

    private void seeds() {
        check.says(16, "the SEED (draw, at first) becomes its 137-fold and 71 more, modulo 1,000");
        int[] draws = {0, 1, 137, 999, 777};
        int[] then = {71, 208, 840, 934, 520};
        for (int i = 0; i < draws.length; i++) {
            KiteRoofs x = Check.with("draw " + draws[i] + ";");
            check.due("draw", x.about(5), draws[i]);
            x.hour();
            check.due("behind " + draws[i], x.about(5), then[i]);
        }

        check.says(16, "there is a gust, if its rest by 100 is less than gust tells.");
        // SEEDS behind 9: 304, 719.
        String town = "roof r at 0 weight 6;kite a of r at 0 size 1 cord 99 height 1 tied;draw 9;gust ";
        check.due("4 by gust 4", Check.with(town + "4 of 1;").hour(), 1);
        check.due("4 by gust 5", Check.with(town + "5 of 1;").hour(), 0);
        KiteRoofs x = Check.with(town + "19 of 1;");
        x.hour();
        check.due("19 by gust 19", x.hour(), 1);
        x = Check.with(town + "20 of 1;");
        x.hour();
        check.due("19 by gust 20", x.hour(), 0);
        // 617 is followed by 600: its rest is 0.
        check.due("0 by gust 1", Check.with(town.replace("draw 9", "draw 617") + "1 of 1;").hour(), 0);
        check.due("0 by gust 0", Check.with(town.replace("draw 9", "draw 617") + "0 of 1;").hour(), 1);
        // 344 is followed by 199: its rest is 99.
        check.due("99 by gust 99", Check.with(town.replace("draw 9", "draw 344") + "99 of 1;").hour(), 1);
        check.due("99 by gust 100", Check.with(town.replace("draw 9", "draw 344") + "100 of 1;").hour(), 0);
    }

    private void lookedAtAsItIsThen() {
        check.says(16, "All is looked at as it is then: each ROOF that is not UP was DOWN once more");
        // In the HOUR in which its cord is worn, but still bears 5, the ROOF is UP; the AGE counts from the next on.
        KiteRoofs x = Check.with("roof r at 0 weight 5;kite a of r at 0 size 1 cord 5 height 1 tied;");
        pass(x, 9);
        check.due("AGE 9, in the tenth HOUR", x.hour(), 0);
        check.due("not LOST by the AGE of 10", x.about(7), 0);
        check.due("in the eleventh", x.hour(), 1);
        check.due("LOST", x.about(7), 1);
        check.due("DOWN once", x.roof(0, 3), 1);
        x.hour();
        check.due("DOWN once more", x.roof(0, 3), 2);
        // The last hour of a BOY still holds.
        x = Check.with("roof r at 0 weight 5;kite a of r at 0 size 1 cord 9 height 1;boy b arms 5 hours 1;holds b a;");
        check.due("with his last hour", x.hour(), 0);
        check.due("without one", x.hour(), 1);
        // By the wind of its own hour, with the gust of its own SEED.
        x = Check.with("roof r at 0 weight 5;kite a of r at 0 size 1 cord 9 height 1 tied;wind (hour=0)*5;");
        check.due("hour 0", x.hour(), 0);
        check.due("hour 1", x.hour(), 1);
    }

    private void hoursLeft() {
        check.says(16, "each BOY to whom one that FLIES is given has an hour less (0 at least)");
        KiteRoofs x = town();
        x.give(2, 1);
        x.hour();
        check.due("tom's FLIES", x.boy(0, 1), 1);
        check.due("ned's is landed", x.boy(1, 1), 4);
        x.hour();
        check.due("tom has none", x.boy(0, 1), 0);
        x.hour();
        check.due("0 at least", x.boy(0, 1), 0);
        x.fly(2, 1);
        x.hour();
        check.due("too strong for ned, not HELD", x.boy(1, 1), 3);
        x.fly(1, 0);
        x.give(1, 1);
        x.hour();
        check.due("one that FLIES and one landed", x.boy(1, 1), 2);
        x.fly(1, 1);
        x.hour();
        check.due("two that FLY take one hour", x.boy(1, 1), 1);
        x = town();
        x.give(0, 1);
        x.tie(0);
        x.hour();
        x.give(0, 1);
        x.hour();
        check.due("a LOST one takes none", x.boy(1, 1), 4);
    }

    private void lost() {
        check.says(16, "of each that FLIES the AGE is 1 more, and if it is HELD, and its cord does not bear its LIFT, it is LOST.");
        KiteRoofs x = Check.with("roof r at 0 weight 9;kite a of r at 0 size 1 cord 4 height 1 tied;"
            + "kite b of r at 4 size 1 cord 5 height 1 tied;kite c of r at 8 size 1 cord 4 height 1;"
            + "kite d of r at 12 size 1 cord 4 tied;kite e of r at 16 size 1 cord 4 height 1;boy t arms 5;holds t e;");
        x.hour();
        check.due("a: 5 by 4; e: HELD by a BOY", x.about(7), 1 + 16);
        check.due("b: 5 by 5", x.kite(1, 2), 0);
        check.due("c: 5 by 4, not HELD", x.kite(2, 2), 0);
        check.due("d: landed", x.kite(3, 2), 0);
        int[] age = {1, 1, 1, 0, 1};
        for (int k = 0; k < age.length; k++) {
            check.due("AGE of " + k, x.kite(k, 3), age[k]);
        }
        x.hour();
        check.due("LOST does not FLY", x.kite(0, 3), 1);
        check.due("LOST stays LOST", x.about(7), 17);
        // Only in a gust more than the cord bears.
        x = Check.with("roof r at 0 weight 5;kite a of r at 0 size 1 cord 5 height 1 tied;gust 100 of 1;");
        check.due("now it PULLS", x.kite(0, 7), 5);
        check.due("DOWN in the gust", x.hour(), 1);
        check.due("LOST in the gust", x.about(7), 1);
    }

    private void days() {
        check.says(16, "The hour goes up by 1; behind 23 it is 0, the day 1 more, and all BOYS have all hours again.");
        KiteRoofs x = town();
        pass(x, 22);
        check.due("hour 22", x.about(3), 22);
        x.hour();
        check.due("hour 23", x.about(3), 23);
        check.due("day 0", x.about(4), 0);
        check.due("tom", x.boy(0, 1), 0);
        x.hour();
        check.due("hour 0", x.about(3), 0);
        check.due("day 1", x.about(4), 1);
        check.due("tom has all", x.boy(0, 1), 2);
        check.due("ned has all", x.boy(1, 1), 4);
        x.hour();
        check.due("hour 1", x.about(3), 1);
        check.due("tom has one less", x.boy(0, 1), 1);
        x = Check.with("roof r at 0 weight 5;kite a of r at 0 size 1 cord 99 height 1;boy b arms 9 hours 24;holds b a;");
        pass(x, 23);
        check.due("24 hours last the day", x.boy(0, 1), 1);
        x.hour();
        check.due("24 again", x.boy(0, 1), 24);
    }

    private void undo() {
        check.says(17, "UNDO takes back the latest ACT that was not");
        KiteRoofs x = town();
        x.fly(2, 4);
        x.give(2, 1);
        x.hour();
        x.mend(0);
        check.due("undo mend", x.undo(), true);
        check.due("LOST", x.about(7), 1);
        check.due("undo hour", x.undo(), true);
        check.due("not LOST", x.about(7), 0);
        check.due("SEED", x.about(5), 0);
        check.due("AGE", x.kite(1, 3), 0);
        check.due("DOWN", x.roof(0, 3), 0);
        check.due("hours", x.boy(0, 1), 2);
        check.due("undo give", x.undo(), true);
        check.due("neither", x.kite(2, 1), -1);
        check.due("undo fly", x.undo(), true);
        check.due("landed", x.kite(2, 0), 0);
        x = town();
        pass(x, 24);
        x.undo();
        check.due("back over the day's end", x.about(3) + 100 * x.about(4), 23);

        check.says(17, "UNDO: true; false if there is none.");
        x = town();
        check.due("none at first", x.undo(), false);
        x.tie(1);
        check.due("one", x.undo(), true);
        check.due("none more", x.undo(), false);
        check.due("as told", x.kite(1, 1), 0);
        check.due("in an empty TOWN", new KiteRoofs().undo(), false);
        x = new KiteRoofs();
        x.hour();
        check.due("an HOUR in an empty TOWN", x.undo(), true);
    }

    private void redo() {
        check.says(18, "REDO does that again which was taken back last (till another ACT)");
        KiteRoofs x = town();
        x.fly(2, 4);
        x.hour();
        x.undo();
        x.undo();
        check.due("redo fly", x.redo(), true);
        check.due("height", x.kite(2, 0), 4);
        check.due("hour", x.about(3), 0);
        check.due("redo hour", x.redo(), true);
        check.due("SEED", x.about(5), 71);
        check.due("LOST", x.about(7), 1);
        x.undo();
        x.fly(2, 4);
        x.tie(0);
        x.mend(0);
        check.due("what did nothing is no other ACT", x.about(9), 1);
        x.tie(1);
        check.due("another ACT", x.about(9), 0);
        check.due("none", x.redo(), false);
        check.due("undo that one", x.undo(), true);
        check.due("redo that one", x.redo(), true);
        check.due("tied", x.kite(1, 1), -2);
        x.undo();
        x.hour();
        check.due("an HOUR is another ACT, too", x.redo(), false);

        check.says(18, "REDO: true; false if there is none.");
        x = town();
        check.due("none at first", x.redo(), false);
        x.fly(2, 4);
        check.due("none taken back", x.redo(), false);
        x.undo();
        check.due("one", x.redo(), true);
        check.due("none more", x.redo(), false);
        check.due("height", x.kite(2, 0), 4);
        check.due("in an empty TOWN", new KiteRoofs().redo(), false);
    }

    private void fortyAreKept() {
        check.says(17, "40 at most are kept, the oldest go.");
        KiteRoofs x = town();
        pass(x, 40);
        check.due("40", x.about(8), 40);
        check.due("another one", x.fly(2, 1), 0);
        check.due("40 still", x.about(8), 40);
        for (int i = 0; i < 40; i++) {
            check.due("undo " + i, x.undo(), true);
        }
        check.due("the oldest is gone", x.undo(), false);
        check.due("what it did stays", x.about(3), 1);
        check.due("40 to be redone", x.about(9), 40);
        for (int i = 0; i < 40; i++) {
            check.due("redo " + i, x.redo(), true);
        }
        check.due("none more", x.redo(), false);
        check.due("hour 16", x.about(3), 16);
        check.due("height", x.kite(2, 0), 1);
        for (int i = 0; i < 30; i++) {
            x.undo();
        }
        check.due("10 left", x.about(8), 10);
        x.tie(2);
        check.due("and another ACT", x.about(8), 11);
        check.due("none to be redone", x.about(9), 0);
        x = town();
        pass(x, 39);
        check.due("39", x.about(8), 39);
        for (int i = 0; i < 39; i++) {
            x.undo();
        }
        check.due("all are back", x.about(3) + x.about(5), 0);
    }

    private void image() {
        check.says(36, "KITES, BOYS' hours, how often ROOFS were DOWN, hour, day, SEED are kept in a BOX 0 .. 2: the day");
        KiteRoofs x = town();
        check.due("the first BOX", x.image(0), 0);
        pass(x, 25);
        x.fly(2, 3);
        x.give(2, 1);
        check.due("the last BOX", x.image(2), 1);
        x.back(0);
        check.due("box 0: height", x.kite(2, 0), 0);
        check.due("box 0: neither", x.kite(2, 1), -1);
        check.due("box 0: LOST", x.about(7), 0);
        check.due("box 0: AGE", x.kite(1, 3), 0);
        check.due("box 0: hours", x.boy(0, 1), 2);
        check.due("box 0: DOWN", x.roof(0, 3), 0);
        check.due("box 0: hour and day", x.about(3) + x.about(4), 0);
        check.due("box 0: SEED", x.about(5), 0);
        x.back(2);
        check.due("box 2: height", x.kite(2, 0), 3);
        check.due("box 2: ned", x.kite(2, 1), 1);
        check.due("box 2: LOST", x.about(7), 1);
        check.due("box 2: AGE", x.kite(1, 3), 25);
        check.due("box 2: hours", x.boy(0, 1), 1);
        check.due("box 2: DOWN", x.roof(0, 3), 25);
        check.due("box 2: hour", x.about(3), 1);
        check.due("box 2: day", x.about(4), 1);
        check.due("in an empty TOWN", new KiteRoofs().image(1), 0);

        check.says(36, "the day; NONE if there is none such.");
        check.due("BOX 3", x.image(3), -1);
        check.due("BOX -1", x.image(-1), -1);
        for (int wrong : Check.FAR) {
            check.due("image(" + wrong + ")", x.image(wrong), -1);
        }
        check.due("nothing was kept by that", x.back(1), -1);
    }

    private void back() {
        check.says(37, "All is as it was kept (no ACTS are kept then): the day");
        KiteRoofs x = town();
        x.fly(2, 3);
        pass(x, 24);
        x.undo();
        x.redo();
        x.image(1);
        check.due("image is no ACT", x.about(8), 25);
        x.fly(2, 4);
        x.undo();
        check.due("one to be redone", x.about(9), 1);
        check.due("the day", x.back(1), 1);
        check.due("no ACTS to undo", x.about(8), 0);
        check.due("none to redo", x.about(9), 0);
        check.due("undo()", x.undo(), false);
        check.due("redo()", x.redo(), false);
        x.hour();
        check.due("gone on from, once more", x.back(1), 1);
        check.due("hour", x.about(3), 0);
        x.later(4);
        x.stolen(1, true);
        x.lend();
        x.back(1);
        check.due("the TIME stays", x.about(11), 4);
        check.due("STOLEN stays", x.about(10), 1);
        check.due("what lies there stays", x.about(14), 3);
        x.hour();
        x.image(1);
        x.back(1);
        check.due("kept anew", x.about(3), 1);

        check.says(37, "NONE, doing nothing, if nothing was.");
        x = town();
        x.image(1);
        x.hour();
        x.undo();
        check.due("BOX 0 is empty", x.back(0), -1);
        check.due("BOX 2 is empty", x.back(2), -1);
        check.due("BOX 3", x.back(3), -1);
        check.due("BOX -1", x.back(-1), -1);
        for (int wrong : Check.FAR) {
            check.due("back(" + wrong + ")", x.back(wrong), -1);
        }
        check.due("nothing was done", x.about(9), 1);
        check.due("redo()", x.redo(), true);
        check.due("at first", new KiteRoofs().back(0), -1);
        x.image(0);
        x.image(2);
        check.due("BOX 3 beside full ones", x.back(3), -1);
        check.due("BOX -1 beside full ones", x.back(-1), -1);
        for (int wrong : Check.FAR) {
            check.due("beside full ones back(" + wrong + ")", x.back(wrong), -1);
        }
    }

    /** As many of each sort as can be; LIFTS are the sizes 1 to 8, PLACES the spools. b's and d's last KITES are torn off. */
    private static String full() {
        StringBuilder text = new StringBuilder("roof a at 0 weight 0;roof b at 0 weight 1;roof c at 0 weight 999;"
            + "roof d at 0 weight 4;wind 0;lift size;");
        for (int k = 0; k < 8; k++) {
            text.append("kite ").append((char) ('p' + k)).append(" of ").append((char) ('a' + k % 4)).append(" at ")
                .append(2 * k).append(" size ").append(k + 1).append(" cord ").append(k == 1 || k == 7 ? k : 99)
                .append(" height ").append(k + 1).append(k < 2 || k == 7 ? " tied;" : ";");
        }
        text.append("boy a arms 9 hours 1;boy b arms 9 hours 2;boy c arms 9 hours 3;boy d arms 9 hours 24;");
        return text + "holds a r;holds b s;holds c t;holds d u;";
    }

    private void row(KiteRoofs x, String when, int what, int... due) {
        for (int k = 0; k < 8; k++) {
            check.due(when + " kite(" + k + ", " + what + ")", x.kite(k, what), due[k]);
        }
    }

    private void asTold(KiteRoofs x) {
        row(x, "as told", 0, 1, 2, 3, 4, 5, 6, 7, 8);
        row(x, "as told", 1, -2, -2, 0, 1, 2, 3, -1, -2);
        row(x, "as told", 2, 0, 0, 0, 0, 0, 0, 0, 0);
        row(x, "as told", 3, 0, 0, 0, 0, 0, 0, 0, 0);
        int[] hours = {1, 2, 3, 24};
        for (int i = 0; i < 4; i++) {
            check.due("as told: hours of " + i, x.boy(i, 1), hours[i]);
            check.due("as told: DOWN " + i, x.roof(i, 3), 0);
        }
        check.due("as told: hour, day, SEED", x.about(3) + x.about(4) + x.about(5), 0);
    }

    private void afterThreeHours(KiteRoofs x, String when) {
        row(x, when, 0, 1, 2, 3, 4, 5, 6, 7, 8);
        row(x, when, 1, -2, -2, 0, 1, 2, 3, -1, -2);
        row(x, when, 2, 0, 1, 0, 0, 0, 0, 0, 1);
        row(x, when, 3, 3, 1, 3, 3, 3, 3, 3, 1);
        row(x, when, 6, 1, 0, 0, 0, 0, 1, 0, 0);
        int[] hours = {0, 0, 0, 21};
        int[] down = {0, 0, 3, 1};
        for (int i = 0; i < 4; i++) {
            check.due(when + ": hours of " + i, x.boy(i, 1), hours[i]);
            check.due(when + ": DOWN " + i, x.roof(i, 3), down[i]);
        }
        check.due(when + ": hour", x.about(3), 3);
        check.due(when + ": day", x.about(4), 0);
        check.due(when + ": SEED", x.about(5), 397);
    }

    private void fullTown() {
        check.says(16, "each ROOF that is not UP was DOWN once more; each BOY to whom one that FLIES is given has an hour less");
        KiteRoofs x = Check.with(full());
        asTold(x);
        int[] down = {4, 4, 12};
        for (int i = 0; i < 3; i++) {
            check.due("HOUR " + i, x.hour(), down[i]);
        }
        afterThreeHours(x, "then");

        check.says(17, "UNDO takes back the latest ACT that was not, REDO does that again");
        for (int i = 0; i < 3; i++) {
            x.undo();
        }
        asTold(x);
        for (int i = 0; i < 3; i++) {
            x.redo();
        }
        afterThreeHours(x, "redone");

        check.says(37, "All is as it was kept");
        x.image(2);
        x.mend(7);
        x.give(6, 3);
        x.tie(5);
        x.fly(0, 9);
        pass(x, 30);
        x.back(2);
        afterThreeHours(x, "kept");

        check.says(15, "A KITE is mended: its AGE that was");
        check.due("the last KITE", x.mend(7), 1);
        row(x, "mended", 0, 1, 2, 3, 4, 5, 6, 7, 0);
        row(x, "mended", 2, 0, 1, 0, 0, 0, 0, 0, 0);
        row(x, "mended", 3, 3, 1, 3, 3, 3, 3, 3, 0);
        check.due("the second KITE", x.mend(1), 1);
        row(x, "both mended", 0, 1, 0, 3, 4, 5, 6, 7, 0);
        row(x, "both mended", 2, 0, 0, 0, 0, 0, 0, 0, 0);
        row(x, "both mended", 3, 3, 0, 3, 3, 3, 3, 3, 0);

        check.says(16, "the day 1 more, and all BOYS have all hours again.");
        x = Check.with(full());
        pass(x, 23);
        int[] left = {0, 0, 0, 1};
        int[] again = {1, 2, 3, 24};
        for (int i = 0; i < 4; i++) {
            check.due("in hour 23: hours of " + i, x.boy(i, 1), left[i]);
        }
        x.hour();
        for (int i = 0; i < 4; i++) {
            check.due("on day 1: hours of " + i, x.boy(i, 1), again[i]);
        }
    }

    private void about() {
        check.says(38, "What 0: KITES, 1: ROOFS, 2: BOYS, 3: the hour, 4: the day, 5: the SEED");
        KiteRoofs y = Check.with(full());
        int[] first = {8, 4, 4, 0, 0, 0};
        for (int what = 0; what < first.length; what++) {
            check.due("about(" + what + ")", y.about(what), first[what]);
        }
        pass(y, 24);
        int[] next = {8, 4, 4, 0, 1};
        for (int what = 0; what < next.length; what++) {
            check.due("on day 1 about(" + what + ")", y.about(what), next[what]);
        }

        check.says(38, "6: KITES that FLY, 7: LOST, both as bits");
        KiteRoofs x = town();
        check.due("FLY", x.about(6), 3);
        check.due("LOST", x.about(7), 0);
        x.hour();
        check.due("LOST does not FLY", x.about(6), 2);
        check.due("LOST", x.about(7), 1);
        StringBuilder eight = new StringBuilder("roof r at 0 weight 6;");
        for (char c = 'a'; c < 'i'; c++) {
            eight.append("kite ").append(c).append(" of r at 0 size 1 cord 1 height 9 tied;");
        }
        x = Check.with(eight + "boy a arms 1;boy b arms 1;");
        check.due("all FLY", x.about(6), 255);
        x.give(0, 1);
        check.due("all FLY, whoever has them", x.about(6), 255);
        x.tie(0);
        x.hour();
        check.due("all are LOST", x.about(7), 255);

        check.says(38, "8: ACTS that can be undone, 9: redone, 10: STOLEN, 11: the TIME, 12: bytes on the TAPE, 13: units, "
            + "14: how many lie there.");
        x = Check.with(TOWN + "wind 1+(2);lift 3;");
        int[] due = {3, 2, 2, 0, 0, 0, 3, 0, 0, 0, 0, 0, 0, 4, 0};
        for (int what = 0; what < due.length; what++) {
            check.due("about(" + what + ")", x.about(what), due[what]);
        }
        x.fly(2, 3);
        pass(x, 25);
        x.undo();
        x.stolen(0, true);
        x.stolen(0, true);
        x.untell(0);
        x.later(9);
        x.feed(0, 0, 0, 0, 0);
        x.end(11);
        x.lend();
        // a's cord bears 2 at AGE 20, less than 3.
        int[] then = {3, 2, 2, 0, 1, x.about(5), 6, 1, 25, 1, 2, 9, 11, 4, 3};
        for (int what = 0; what < then.length; what++) {
            check.due("then about(" + what + ")", x.about(what), then[what]);
        }

        check.says(38, "14: how many lie there. NONE for another what.");
        check.due("about(15)", x.about(15), -1);
        check.due("about(-1)", x.about(-1), -1);
        for (int wrong : Check.FAR) {
            check.due("about(" + wrong + ")", x.about(wrong), -1);
        }
    }
}
