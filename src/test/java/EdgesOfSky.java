/** The edges of promises 6 to 11: what a KITE, a ROOF and a BOY are, the wind, who is NEAR, what CROSSES. */
final class EdgesOfSky {
    private static final String ROOF = "roof r at 0 weight 5;";
    private static final String MOST_INT = "(8192*8192*32-1)";

    private final Check check;

    EdgesOfSky(Check check) {
        this.check = check;
    }

    void all() {
        kiteAtFirst();
        kiteAnswers();
        noSuchKite();
        roofAnswers();
        boyAnswers();
        forceAnswers();
        windAndGust();
        places();
        near();
        cross();
        nearAnswers();
        lifts();
        formulas();
        limitsOfLift();
        held();
        cords();
        pulls();
        up();
    }

    /** A TOWN of one ROOF of weight 5 with one KITE, tied at height 1, and what else is told. */
    private static KiteRoofs one(String kite, String more) {
        return Check.with(ROOF + "kite k of r at " + kite + ";" + more);
    }

    private static void pass(KiteRoofs x, int hours) {
        for (int i = 0; i < hours; i++) {
            x.hour();
        }
    }

    /** A KITE whose cord was too weak in the first HOUR: it is LOST at height 3. */
    private static KiteRoofs lost() {
        KiteRoofs x = one("4 size 1 cord 4 height 3 tied", "kite l of r at 5 size 1 cord 99 height 3 tied;boy b arms 9;");
        x.hour();
        return x;
    }

    private void kiteAtFirst() {
        check.says(6, "A KITE is at a height (0: landed), tied, given to a BOY (who holds it), or neither, LOST or not "
            + "(not at first), and has an AGE (hours it flew).");
        KiteRoofs x = one("4 size 1 cord 99", "kite l of r at 5 size 1 cord 99 height 1 tied;boy b arms 1;holds b k;"
            + "kite m of r at 9 size 1 cord 99 height 9;");
        int[] height = {0, 1, 9};
        int[] holder = {0, -2, -1};
        for (int k = 0; k < 3; k++) {
            check.due("height of " + k, x.kite(k, 0), height[k]);
            check.due("holder of " + k, x.kite(k, 1), holder[k]);
            check.due("LOST " + k, x.kite(k, 2), 0);
            check.due("AGE of " + k, x.kite(k, 3), 0);
        }
        pass(x, 2);
        check.due("a landed one does not age", x.kite(0, 3), 0);
        check.due("one that FLIES does", x.kite(1, 3), 2);
        x.fly(1, 0);
        x.hour();
        check.due("only in hours in which it flew", x.kite(1, 3), 2);

        check.says(6, "It FLIES if it is not LOST and its height is above 0.");
        x = lost();
        check.due("LOST at height 3", x.kite(0, 0), 3);
        check.due("FLIES", x.about(6), 2);
        x.fly(1, 0);
        check.due("landed", x.about(6), 0);
        x.fly(1, 1);
        check.due("at height 1", x.about(6), 2);
    }

    private void kiteAnswers() {
        check.says(6, "Of a KITE what 0: its height");
        KiteRoofs y = one("4 size 1 cord 99 height 9 tied", "");
        check.due("9", y.kite(0, 0), 9);
        y.fly(0, 0);
        check.due("landed", y.kite(0, 0), 0);
        check.due("of a LOST one as it was", lost().kite(0, 0), 3);

        check.says(6, "3: its AGE");
        check.due("of a LOST one", lost().kite(0, 3), 1);
        check.due("of one landed", y.kite(0, 3), 0);

        check.says(6, "1: -2 tied, the BOY who holds it, or NONE");
        KiteRoofs x = one("4 size 1 cord 99", "boy a arms 9;boy b arms 9;boy c arms 9;boy d arms 9;");
        check.due("neither", x.kite(0, 1), -1);
        x.give(0, 0);
        check.due("the first BOY", x.kite(0, 1), 0);
        x.give(0, 3);
        check.due("the last BOY", x.kite(0, 1), 3);
        x.tie(0);
        check.due("tied", x.kite(0, 1), -2);

        check.says(6, "2: 1 if LOST, else 0");
        x = lost();
        check.due("LOST", x.kite(0, 2), 1);
        check.due("not LOST", x.kite(1, 2), 0);

        check.says(6, "4: its PLACE (its spool, if it does not FLY)");
        check.due("LOST", x.kite(0, 4), 4);
        check.due("FLIES", x.kite(1, 4), 6);
        x.fly(1, 0);
        check.due("landed", x.kite(1, 4), 5);

        check.says(6, "5: LIFT (0 if it does not)");
        x = lost();
        check.due("LOST", x.kite(0, 5), 0);
        check.due("FLIES", x.kite(1, 5), 5);
        x.fly(1, 0);
        check.due("landed", x.kite(1, 5), 0);

        check.says(6, "6: 1 if HELD (and FLIES), else 0");
        x = lost();
        check.due("LOST and tied", x.kite(0, 6), 0);
        check.due("FLIES and tied", x.kite(1, 6), 1);
        x.give(1, -1);
        check.due("FLIES and neither", x.kite(1, 6), 0);
        x.give(1, 0);
        check.due("FLIES and given", x.kite(1, 6), 1);
        x.fly(1, 0);
        check.due("landed and given", x.kite(1, 6), 0);
        x.tie(1);
        check.due("landed and tied", x.kite(1, 6), 0);

        check.says(6, "7: what it PULLS, 8: what its cord bears, 9: its ROOF");
        x = Check.with(ROOF + "roof s at 1 weight 1;kite k of s at 0 size 1 cord 4 height 1 tied;");
        x.hour();
        check.due("LOST PULLS nothing", x.kite(0, 7), 0);
        check.due("its cord bears all the same", x.kite(0, 8), 4);
        check.due("the last ROOF", x.kite(0, 9), 1);
    }

    private void noSuchKite() {
        check.says(6, "9: its ROOF; -3 if there is none such, or for another what.");
        KiteRoofs x = one("0 size 1 cord 9 height 1 tied", "kite l of r at 0 size 1 cord 9 height 1 tied;");
        check.due("the last KITE", x.kite(1, 9), 0);
        check.due("one behind it", x.kite(2, 9), -3);
        check.due("KITE -1", x.kite(-1, 9), -3);
        check.due("what -1", x.kite(0, -1), -3);
        check.due("one behind the last what", x.kite(0, 10), -3);
        for (int wrong : Check.FAR) {
            check.due("kite(" + wrong + ", 0)", x.kite(wrong, 0), -3);
            check.due("kite(0, " + wrong + ")", x.kite(0, wrong), -3);
        }
        check.due("in an empty TOWN", new KiteRoofs().kite(0, 0), -3);
    }

    private void roofAnswers() {
        check.says(7, "Of a ROOF what 0: its weight, 1: what its KITES PULL together");
        KiteRoofs y = Check.with("roof a at 0 weight 0;roof b at 0 weight 999;kite k of b at 0 size 1 cord 5 height 1 tied;"
            + "kite l of b at 9 size 2 cord 99 height 1 tied;kite m of b at 18 size 3 cord 99 height 1;");
        check.due("weight 0", y.roof(0, 0), 0);
        check.due("weight 999", y.roof(1, 0), 999);
        check.due("no KITES", y.roof(0, 1), 0);
        check.due("5 and 10, and one that is not HELD", y.roof(1, 1), 15);
        y.fly(1, 0);
        check.due("5", y.roof(1, 1), 5);

        check.says(7, "2: 1 if UP, else 0, 3: how often it was DOWN, 4: its KITES, as bits");
        KiteRoofs x = Check.with("roof a at 0 weight 0;roof b at 0 weight 1;roof c at 19 weight 1;" + eight("b"));
        check.due("weight 0, no KITES", x.roof(0, 2), 1);
        check.due("weight 1, landed KITES", x.roof(1, 2), 0);
        check.due("no KITES", x.roof(0, 4), 0);
        check.due("all KITES, landed ones, too", x.roof(1, 4), 255);
        pass(x, 3);
        check.due("never DOWN", x.roof(0, 3), 0);
        check.due("always DOWN", x.roof(1, 3), 3);
        check.due("YARD", x.roof(2, 5), 19);

        check.says(7, "5: its YARD; NONE if there is none such, or for another what.");
        check.due("the last ROOF", x.roof(2, 0), 1);
        check.due("one behind it", x.roof(3, 0), -1);
        check.due("ROOF -1", x.roof(-1, 0), -1);
        check.due("what -1", x.roof(0, -1), -1);
        check.due("one behind the last what", x.roof(0, 6), -1);
        for (int wrong : Check.FAR) {
            check.due("roof(" + wrong + ", 0)", x.roof(wrong, 0), -1);
            check.due("roof(0, " + wrong + ")", x.roof(0, wrong), -1);
        }
        check.due("in an empty TOWN", new KiteRoofs().roof(0, 0), -1);
    }

    private static String eight(String roof) {
        StringBuilder text = new StringBuilder();
        for (int k = 0; k < 8; k++) {
            text.append("kite ").append((char) ('a' + k)).append(" of ").append(roof).append(" at 0 size 1 cord 99;");
        }
        return text.toString();
    }

    private void boyAnswers() {
        check.says(8, "2: LIFTS of all that he holds and that FLY, together, 3: these, as bits");
        KiteRoofs x = Check.with("roof b at 0 weight 1;" + eight("b") + "boy a arms 1;boy z arms 99;");
        check.due("none are given", x.boy(1, 3), 0);
        for (int k = 0; k < 8; k++) {
            x.give(k, 1);
        }
        check.due("given, but landed", x.boy(1, 3), 0);
        check.due("they lift nothing", x.boy(1, 2), 0);
        for (int k = 0; k < 8; k++) {
            x.fly(k, 1);
        }
        check.due("all eight", x.boy(1, 3), 255);
        check.due("all LIFTS", x.boy(1, 2), 40);
        check.due("nothing is the other one's", x.boy(0, 3), 0);
        x.give(7, 0);
        check.due("more than his arms", x.boy(0, 2), 5);
        check.due("one fewer", x.boy(1, 3), 127);
        for (int k = 0; k < 8; k++) {
            x.fly(k, 0);
        }
        check.due("all are landed again", x.boy(1, 3), 0);
        x = lost();
        x.give(0, 0);
        check.due("LOST is given, but does not FLY", x.boy(0, 3), 0);

        check.says(8, "Of a BOY what 0: arms, 1: hours left on this day, 2: LIFTS of all that he holds and that FLY, "
            + "together, 3: these, as bits; NONE if there is none such, or for another what.");
        x = Check.with("boy a arms 1;boy z arms 99;");
        check.due("the last BOY", x.boy(1, 0), 99);
        check.due("one behind him", x.boy(2, 0), -1);
        check.due("BOY -1", x.boy(-1, 0), -1);
        check.due("what -1", x.boy(0, -1), -1);
        check.due("one behind the last what", x.boy(0, 4), -1);
        for (int wrong : Check.FAR) {
            check.due("boy(" + wrong + ", 0)", x.boy(wrong, 0), -1);
            check.due("boy(0, " + wrong + ")", x.boy(0, wrong), -1);
        }
        check.due("in an empty TOWN", new KiteRoofs().boy(0, 0), -1);
    }

    private void forceAnswers() {
        check.says(9, "FORCE at a height (1 .. 9), without a gust (gust 0), in one (1); NONE if one can't be.");
        KiteRoofs x = Check.with("wind height;gust 0 of 3;");
        check.due("height 1", x.force(1, 0), 1);
        check.due("height 9", x.force(9, 0), 9);
        check.due("height 1 in a gust", x.force(1, 1), 4);
        check.due("height 9 in a gust", x.force(9, 1), 12);
        check.due("height 0", x.force(0, 0), -1);
        check.due("height 10", x.force(10, 0), -1);
        check.due("gust 2", x.force(1, 2), -1);
        check.due("gust -1", x.force(1, -1), -1);
        check.due("height -1", x.force(-1, 0), -1);
        for (int wrong : Check.FAR) {
            check.due("force(" + wrong + ", 0)", x.force(wrong, 0), -1);
            check.due("force(1, " + wrong + ")", x.force(1, wrong), -1);
        }
    }

    private static KiteRoofs wind(String wind) {
        return Check.with("wind " + wind + ";gust 0 of 1;");
    }

    private void windAndGust() {
        check.says(9, "FORCE at a height: what comes of wind (5, if it is not told)");
        check.due("not told", new KiteRoofs().force(1, 0), 5);
        check.due("told to be 0", wind("0").force(1, 0), 0);

        check.says(9, "hour (0 .. 23; 0 at first), day (0 at first; others 0)");
        KiteRoofs x = wind("hour");
        check.due("hour 0", x.force(1, 0), 0);
        pass(x, 20);
        check.due("hour 20", x.force(1, 0), 20);
        x = wind("hour-4");
        pass(x, 23);
        check.due("hour 23", x.force(1, 0), 19);
        x.hour();
        check.due("hour 0 again", x.force(1, 0), 0);
        x = wind("day+3");
        pass(x, 23);
        check.due("day 0", x.force(1, 0), 3);
        x.hour();
        check.due("day 1", x.force(1, 0), 4);
        x = one("0 size 7 cord 99 height 1 tied", "kite l of r at 0 size 9 cord 99 height 1 tied;wind size+force+near+age;");
        pass(x, 5);
        check.due("others 0", x.force(1, 0), 0);
        x.kite(1, 5);
        check.due("others 0 behind a look at LIFTS, too", x.force(1, 1), 1);

        check.says(9, "in a gust, so much more as is told (the sum wraps, too), 0 at least, 20 at most.");
        check.due("-1", wind("0-1").force(1, 0), 0);
        check.due("-1 and 1 more", wind("0-1").force(1, 1), 0);
        check.due("-2 and 1 more", wind("0-2").force(1, 1), 0);
        check.due("19 and 1 more", wind("19").force(1, 1), 20);
        check.due("20 and 1 more", wind("20").force(1, 1), 20);
        check.due("20", wind("20").force(1, 0), 20);
        check.due("21", wind("21").force(1, 0), 20);
        check.due("the most int", wind(MOST_INT).force(1, 0), 20);
        check.due("the most int and 1 more", wind(MOST_INT).force(1, 1), 0);
        check.due("the least int", wind(MOST_INT + "+1").force(1, 0), 0);
    }

    private static int placeOf(int spool, int height, int wind) {
        return one(spool + " size 1 cord 99 height " + height + " tied", "wind " + wind + ";").kite(0, 4);
    }

    private void places() {
        check.says(6, "A KITE that FLIES leans as many YARDS from its spool as FORCE times height by 10 (cut): its PLACE.");
        check.due("9 by 10", placeOf(0, 1, 9), 0);
        check.due("10 by 10", placeOf(0, 1, 10), 1);
        check.due("19 by 10", placeOf(3, 1, 19), 4);
        check.due("180 by 10, from YARD 19", placeOf(19, 9, 20), 37);
        check.due("no wind", placeOf(7, 9, 0), 7);
        check.due("landed", placeOf(7, 0, 20), 7);
        // By the FORCE at its own height.
        check.due("at height 5", one("1 size 1 cord 9 height 5 tied", "wind (height=5)*4+(height=4)*20;").kite(0, 4), 3);
    }

    /** With wind 10 a KITE's PLACE is its spool and its height together; the first is at height 3 and PLACE 8. */
    private static KiteRoofs pair(int spool, int height) {
        return one("5 size 1 cord 99 height 3 tied",
            "kite l of r at " + spool + " size 1 cord 99 height " + height + " tied;wind 10;");
    }

    private void bothWays(KiteRoofs x, String pair, int what, boolean is) {
        check.due(pair + ", from the first", x.near(0, what), is ? 2 : 0);
        check.due(pair + ", from the second", x.near(1, what), is ? 1 : 0);
    }

    private void near() {
        check.says(10, "NEAR are two that FLY whose heights differ by 1 at most, whose PLACES by 2 at most.");
        bothWays(pair(5, 3), "like heights and PLACES", 0, true);
        bothWays(pair(6, 4), "1 higher, 2 behind", 0, true);
        bothWays(pair(7, 4), "1 higher, 3 behind", 0, false);
        bothWays(pair(4, 2), "1 lower, 2 before", 0, true);
        bothWays(pair(3, 2), "1 lower, 3 before", 0, false);
        bothWays(pair(3, 5), "2 higher, the same PLACE", 0, false);
        bothWays(pair(7, 1), "2 lower, the same PLACE", 0, false);
        bothWays(pair(8, 0), "landed", 0, false);
        KiteRoofs x = one("5 size 1 cord 1 height 3 tied", "kite l of r at 5 size 1 cord 99 height 3 tied;wind 10;");
        check.due("NEAR", x.near(0, 0), 2);
        x.hour();
        check.due("the first is LOST", x.about(7), 1);
        bothWays(x, "LOST", 0, false);
        x = one("5 size 1 cord 99 height 1 tied", "kite l of r at 5 size 1 cord 99 tied;wind 0;");
        bothWays(x, "one at height 1, one landed", 0, false);
    }

    private void cross() {
        check.says(10, "Two that FLY CROSS, if the one's spool is before the other one's, but its PLACE behind the other "
            + "one's.");
        bothWays(pair(6, 1), "spool before, PLACE 8 behind 7", 1, true);
        bothWays(pair(6, 2), "spool before, the same PLACE", 1, false);
        bothWays(pair(6, 3), "spool before, PLACE before", 1, false);
        bothWays(pair(5, 1), "the same spool", 1, false);
        bothWays(pair(5, 9), "the same spool", 1, false);
        bothWays(pair(4, 5), "the other one's spool before, its PLACE behind", 1, true);
        bothWays(pair(4, 4), "the other one's spool before, the same PLACE", 1, false);
        bothWays(pair(6, 0), "landed", 1, false);
        KiteRoofs x = one("5 size 1 cord 1 height 9 tied", "kite l of r at 6 size 1 cord 99 height 1 tied;wind 10;");
        bothWays(x, "FLY both", 1, true);
        x.hour();
        bothWays(x, "LOST", 1, false);
    }

    private void nearAnswers() {
        check.says(10, "With which KITES one is NEAR (what 0), CROSSES (1), as bits; NONE if there is none such, or for "
            + "another what.");
        KiteRoofs x = Check.with("roof b at 0 weight 1;" + eight("b"));
        for (int k = 0; k < 8; k++) {
            x.fly(k, 1);
        }
        check.due("all but the first", x.near(0, 0), 254);
        check.due("all but the last", x.near(7, 0), 127);
        check.due("CROSSES none", x.near(7, 1), 0);
        x.fly(0, 0);
        check.due("landed", x.near(0, 0), 0);
        check.due("landed", x.near(0, 1), 0);
        check.due("what 2", x.near(0, 2), -1);
        check.due("what -1", x.near(0, -1), -1);
        check.due("KITE -1", x.near(-1, 0), -1);
        check.due("behind the last KITE", x.near(8, 0), -1);
        for (int wrong : Check.FAR) {
            check.due("near(" + wrong + ", 0)", x.near(wrong, 0), -1);
            check.due("near(0, " + wrong + ")", x.near(0, wrong), -1);
        }
        check.due("one behind the last KITE", pair(5, 3).near(2, 0), -1);
        check.due("in an empty TOWN", new KiteRoofs().near(0, 0), -1);
    }

    private void lifts() {
        check.says(6, "LIFT of a KITE that FLIES: what comes of lift (size times force, if it is not told)");
        check.due("1 times 0", one("0 size 1 cord 99 height 1 tied", "wind 0;").kite(0, 5), 0);
        check.due("9 times 20", one("0 size 9 cord 99 height 9 tied", "wind 20;").kite(0, 5), 180);
        check.due("told to be 0", one("0 size 9 cord 99 height 9 tied", "lift 0;").kite(0, 5), 0);
        check.due("by the FORCE at its height", one("0 size 2 cord 99 height 9 tied", "wind height;").kite(0, 5), 18);

        check.says(6, "by height, hour, day, size, force, near (with how many it is NEAR), age");
        String lift = "kite l of r at 0 size 3 cord 99 height 1 tied;kite m of r at 0 size 3 cord 99 height 2;wind 4;lift ";
        String[] values = {"height", "hour", "day", "size", "force", "near", "age"};
        int[] first = {1, 0, 0, 7, 4, 2, 0};
        int[] then = {1, 1, 1, 7, 4, 2, 25};
        for (int i = 0; i < values.length; i++) {
            KiteRoofs x = one("0 size 7 cord 99 height 1 tied", lift + values[i] + ";");
            check.due(values[i] + " at first", x.kite(0, 5), first[i]);
            pass(x, 25);
            check.due(values[i] + " in hour 1 of day 1", x.kite(0, 5), then[i]);
        }
        KiteRoofs x = one("0 size 1 cord 99 height 1 tied", "kite l of r at 9 size 1 cord 99 tied;lift 3+age;");
        pass(x, 5);
        x.fly(1, 1);
        pass(x, 2);
        check.due("its own age", x.kite(0, 5), 10);
        check.due("its own age, of the last", x.kite(1, 5), 5);
    }

    private static int lift(String lift) {
        return one("0 size 1 cord 99 height 1 tied", "lift " + lift + ";").kite(0, 5);
    }

    private void formulas() {
        check.says(6, "(ints, wrapping;");
        check.due("the most int", lift(MOST_INT), 999);
        check.due("and one more", lift("(" + MOST_INT + "+1)<0"), 1);
        check.due("the least int less 1", lift("(0-" + MOST_INT + "-2)>0"), 1);
        check.due("twice the most int", lift("0-" + MOST_INT + "*2"), 2);
        check.due("the least int by -1", lift("(" + MOST_INT + "+1)/(0-1)<0"), 1);
        check.due("its rest", lift("1+(" + MOST_INT + "+1)%(0-1)"), 1);

        check.says(6, "/ cut, % its rest, both by 0: 0");
        check.due("7 / 2", lift("7/2"), 3);
        check.due("-7 / 2", lift("10+(0-7)/2"), 7);
        check.due("7 / -2", lift("10+7/(0-2)"), 7);
        check.due("7 % 3", lift("7%3"), 1);
        check.due("-7 % 3", lift("10+(0-7)%3"), 9);
        check.due("7 % -3", lift("10+7%(0-3)"), 11);
        check.due("7 / 0", lift("3+7/0"), 3);
        check.due("7 % 0", lift("3+7%0"), 3);
        check.due("0 / 0", lift("3+0/(hour+day)"), 3);
        check.due("0 % 0", lift("3+0%(hour+day)"), 3);

        check.says(6, "relations, and, or, not are 1 or 0, of what is not 0");
        check.due("3 < 3", lift("(3<3)+(2<3)*2+(4<3)*4"), 2);
        check.due("3 > 3", lift("(3>3)+(2>3)*2+(4>3)*4"), 4);
        check.due("3 = 3", lift("(3=3)+(2=3)*2+(4=3)*4"), 1);
        check.due("below 0", lift("0-1<0"), 1);
        check.due("7 and -7", lift("7 and 0-7"), 1);
        check.due("7 and 0", lift("7 and 0"), 0);
        check.due("0 and 7", lift("0 and 7"), 0);
        check.due("0 or -7", lift("0 or 0-7"), 1);
        check.due("8 or 4", lift("8 or 4"), 1);
        check.due("0 or 0", lift("5+(0 or 0)"), 5);
        check.due("0 and 0", lift("5+(0 and 0)"), 5);
        check.due("not 9", lift("5+(not 9)"), 5);
        check.due("4 < 3", lift("5+(4<3)"), 5);
        check.due("3 > 4", lift("5+(3>4)"), 5);
        check.due("3 = 4", lift("5+(3=4)"), 5);
        check.due("8 and 4", lift("8 and 4"), 1);
        check.due("not 0", lift("not 0"), 1);
        check.due("not 7", lift("not 7"), 0);
        check.due("not -1", lift("not 0-1"), 0);
        check.due("not not 7", lift("not not 7"), 1);
    }

    private void limitsOfLift() {
        check.says(6, "0 at least, 999 at most; half of it (cut) if it CROSSES one at least.");
        check.due("-1", lift("0-1"), 0);
        check.due("0", lift("0"), 0);
        check.due("999", lift("999"), 999);
        check.due("1000", lift("1000"), 999);
        int[] whole = {0, 1, 2, 7, 999, 1000, 2000};
        int[] half = {0, 0, 1, 3, 499, 499, 499};
        for (int i = 0; i < whole.length; i++) {
            KiteRoofs x = one("0 size 1 cord 99 height 9 tied", "kite l of r at 1 size 1 cord 99 height 1 tied;wind 10;lift "
                + whole[i] + ";");
            check.due("half of " + whole[i], x.kite(0, 5), half[i]);
            check.due("half of " + whole[i] + ", the other one", x.kite(1, 5), half[i]);
            x.fly(1, 9);
            check.due("CROSSES none", x.kite(0, 5), Math.min(999, whole[i]));
        }
        KiteRoofs x = one("0 size 1 cord 99 height 9 tied", "kite l of r at 1 size 1 cord 99 height 1 tied;"
            + "kite m of r at 2 size 1 cord 99 height 1 tied;wind 10;lift 8;");
        check.due("CROSSES two", x.near(0, 1), 6);
        check.due("half all the same", x.kite(0, 5), 4);
    }

    private void held() {
        check.says(6, "It is HELD if it is tied, or if its BOY has hours left on this day, and LIFTS of all that FLY and are "
            + "given to him are together no more than his arms.");
        String two = "kite l of r at 9 size 1 cord 99 height 1;boy b arms 10 hours 1;boy c arms 9;";
        KiteRoofs x = one("0 size 1 cord 99 height 1", two);
        check.due("neither", x.kite(0, 6), 0);
        x.give(0, 0);
        x.give(1, 0);
        check.due("10 by arms 10", x.kite(0, 6) + x.kite(1, 6), 2);
        x.give(0, 1);
        x.give(1, 1);
        check.due("10 by arms 9", x.kite(0, 6) + x.kite(1, 6), 0);
        x.fly(1, 0);
        check.due("one is landed", x.kite(0, 6), 1);
        x.fly(1, 1);
        x.tie(1);
        check.due("one is tied", x.kite(0, 6), 1);
        x.give(1, 0);
        check.due("one hour left", x.kite(1, 6), 1);
        x.hour();
        check.due("none left", x.kite(1, 6), 0);
        check.due("hours left, the other one", x.kite(0, 6), 1);
        pass(x, 23);
        check.due("on the next day", x.kite(1, 6), 1);
        check.due("tied, with nobody there", lost().kite(1, 6), 1);
        check.due("LIFT 0 is no more than arms", one("0 size 1 cord 9 height 1", "lift 0;boy b arms 1;holds b k;").kite(0, 6), 1);
    }

    private void cords() {
        check.says(6, "Its cord bears as much as is told, less a tenth of its AGE (cut; 0 at least).");
        KiteRoofs x = one("0 size 1 cord 1 height 1", "kite l of r at 9 size 1 cord 999 height 1;");
        int[] hours = {0, 9, 1, 9, 1};
        int[] weak = {1, 1, 0, 0, 0};
        int[] strong = {999, 999, 998, 998, 997};
        for (int i = 0; i < hours.length; i++) {
            pass(x, hours[i]);
            check.due("cord 1 at AGE " + x.kite(0, 3), x.kite(0, 8), weak[i]);
            check.due("cord 999 at AGE " + x.kite(1, 3), x.kite(1, 8), strong[i]);
        }
    }

    private void pulls() {
        check.says(6, "It PULLS its LIFT, if it is HELD and its cord bears that; else 0.");
        check.due("LIFT 5 by cord 5", one("0 size 1 cord 5 height 1 tied", "").kite(0, 7), 5);
        check.due("LIFT 5 by cord 4", one("0 size 1 cord 4 height 1 tied", "").kite(0, 7), 0);
        check.due("its LIFT all the same", one("0 size 1 cord 4 height 1 tied", "").kite(0, 5), 5);
        check.due("HELD all the same", one("0 size 1 cord 4 height 1 tied", "").kite(0, 6), 1);
        check.due("not HELD", one("0 size 1 cord 5 height 1", "").kite(0, 7), 0);
        check.due("999 by 999", one("0 size 1 cord 999 height 1 tied", "lift 999;").kite(0, 7), 999);
        KiteRoofs x = one("0 size 1 cord 5 height 1 tied", "");
        pass(x, 9);
        check.due("at AGE 9", x.kite(0, 7), 5);
        x.hour();
        check.due("at AGE 10", x.kite(0, 7), 0);
    }

    private void up() {
        check.says(11, "A ROOF is UP if all of its KITES PULL as much together as its weight at least.");
        String kites = "kite k of r at 0 size 1 cord 99 height 1 tied;kite l of r at 9 size 1 cord 99 height 1 tied;"
            + "kite m of s at 0 size 9 cord 99 height 9 tied;";
        String other = "roof s at 0 weight 0;";
        check.due("10 of 10", Check.with("roof r at 0 weight 10;" + other + kites).up(), 3);
        check.due("10 of 11", Check.with("roof r at 0 weight 11;" + other + kites).up(), 2);
        check.due("10 of 9", Check.with("roof r at 0 weight 9;" + other + kites).up(), 3);
        check.due("what its KITES PULL", Check.with("roof r at 0 weight 11;" + other + kites).roof(0, 1), 10);
        check.due("0 of 0", Check.with("roof r at 0 weight 0;").up(), 1);
        check.due("0 of 1", Check.with("roof r at 0 weight 1;").up(), 0);

        check.says(11, "ROOFS that are UP, as bits.");
        check.due("without ROOFS", new KiteRoofs().up(), 0);
        String four = "roof a at 0 weight 0;roof b at 0 weight 0;roof c at 0 weight 0;roof d at 0 weight 0;";
        check.due("all four", Check.with(four).up(), 15);
        check.due("the last one", Check.with(four.replace("weight 0", "weight 1").replace("d at 0 weight 1", "d at 0 weight 0"))
            .up(), 8);
        check.due("now is without a gust", one("0 size 1 cord 99 height 1 tied", "wind 4;gust 100 of 9;").up(), 0);
    }
}
