/** The edges of promises 19 to 21, 27 and 28: what HOURS bring, odds, another law of crossing. */
final class EdgesOfAhead {
    private static final String ONE = "roof r at 0 weight 1;kite a of r at 0 size 1 cord 99 height 1 tied;";
    // SEEDS behind 9: 304, 719, 574, 709: with gust 20 there are gusts in the HOURS 1, 2 and 4.
    private static final String GUSTS = "roof r at 0 weight 6;roof q at 0 weight 5;"
        + "kite a of r at 0 size 1 cord 99 height 1 tied;kite b of q at 6 size 1 cord 99 height 1 tied;draw 9;gust 20 of 1;";
    // b lifts 5; with wind 10 it CROSSES a and lifts half of 10. a is not HELD.
    private static final String CROSSING = "roof r at 0 weight 5;kite a of r at 0 size 1 cord 1 height 9;"
        + "kite b of r at 6 size 1 cord 99 height 1 tied;";

    private final Check check;

    EdgesOfAhead(Check check) {
        this.check = check;
    }

    void all() {
        nothingIsDone();
        will();
        beyondTheLastDay();
        calm();
        downs();
        odds();
        oddsAnswers();
        law();
        lawAnswers();
    }

    private static void pass(KiteRoofs x, int hours) {
        for (int i = 0; i < hours; i++) {
            x.hour();
        }
    }

    private void nothingIsDone() {
        check.says(19, "(By what is now, without a gust, if not told otherwise; nothing is done.)");
        KiteRoofs x = Check.with(GUSTS + "boy b arms 9;kite c of q at 12 size 1 cord 1 height 2 tied;");
        x.hour();
        x.fly(0, 2);
        x.undo();
        int[] was = new int[14];
        for (int what = 0; what < was.length; what++) {
            was[what] = x.about(what);
        }
        x.will(60);
        x.calm(0);
        x.downs(0, 60);
        x.best(0, 0);
        x.fewest(1, 0);
        x.crew(0);
        x.guard(0);
        x.lend();
        x.odds(0, 4, 0);
        x.law(0);
        x.ask(0, 0);
        for (int what = 0; what < was.length; what++) {
            check.due("about(" + what + ")", x.about(what), was[what]);
        }
        check.due("height", x.kite(0, 0), 1);
        check.due("AGE", x.kite(0, 3), 1);
        check.due("LOST in the first HOUR", x.kite(2, 2), 1);
        check.due("DOWN", x.roof(0, 3), 0);
        check.due("half all the same", Check.with(CROSSING + "wind 10;").kite(1, 5), 5);
        KiteRoofs y = Check.with(CROSSING + "wind 10;");
        y.law(10);
        check.due("half behind another law, too", y.kite(1, 5), 5);
        check.due("without a gust", Check.with(ONE + "wind 0;gust 100 of 9;").best(0, 1), 0);
    }

    private void will() {
        check.says(19, "WILL: ROOFS that are UP in the n-th HOUR from now (gusts as the SEED tells)");
        KiteRoofs x = Check.with(GUSTS);
        int[] due = {3, 3, 2, 3};
        for (int n = 1; n <= due.length; n++) {
            check.due("will(" + n + ")", x.will(n), due[n - 1]);
        }
        check.due("now", x.up(), 2);
        x.hour();
        check.due("from then on", x.will(2), 2);

        check.says(19, "WILL (n 1 .. 60), as bits; NONE for another n.");
        check.due("will(0)", x.will(0), -1);
        check.due("will(61)", x.will(61), -1);
        check.due("will(-1)", x.will(-1), -1);
        for (int wrong : Check.FAR) {
            check.due("will(" + wrong + ")", x.will(wrong), -1);
        }
        // The 60th HOUR from now is hour 11 of day 2.
        x = Check.with(ONE + "wind day=2 and hour=11;");
        check.due("will(59)", x.will(59), 0);
        check.due("will(60)", x.will(60), 1);
        x = Check.with(ONE + "wind day=0 and hour=0;");
        check.due("will(1)", x.will(1), 1);
        check.due("will(2)", x.will(2), 0);
        check.due("without ROOFS", new KiteRoofs().will(60), 0);
        String four = "roof a at 0 weight 0;roof b at 0 weight 0;roof c at 0 weight 0;roof d at 0 weight 0;";
        check.due("all four", Check.with(four).will(60), 15);
    }

    /** In hour 23 of day 999, with all KITES as told. */
    private static KiteRoofs atTheEnd(String text) {
        KiteRoofs x = Check.with(text);
        int kites = x.about(0);
        int[] heights = new int[kites];
        for (int k = 0; k < kites; k++) {
            heights[k] = x.kite(k, 0);
            x.fly(k, 0);
        }
        pass(x, 23999);
        for (int k = 0; k < kites; k++) {
            x.fly(k, heights[k]);
        }
        return x;
    }

    private void beyondTheLastDay() {
        check.says(19, "(this, and all that goes ahead, beyond day 999, too)");
        KiteRoofs x = atTheEnd(ONE + "wind (day=1000)*3;");
        check.due("the last hour", x.will(1), 0);
        check.due("hour 0 of day 1000", x.will(2), 1);
        check.due("hour 23 of day 1000", x.will(25), 1);
        check.due("hour 0 of day 1001", x.will(26), 0);
        check.due("downs", x.downs(0, 60), 1 + 35);
        check.due("no HOUR", x.hour(), -1);
        x = atTheEnd(ONE + "wind (day<1000)*3;");
        check.due("calm", x.calm(0), 1);
        check.due("odds of one HOUR", x.odds(0, 1, 0), 1);
        check.due("odds of two", x.odds(0, 2, 0), 0);
        x = atTheEnd(CROSSING + "wind 5+(day=1000)*5;");
        check.due("law", x.law(4), 23);
    }

    private void calm() {
        check.says(20, "CALM of a ROOF: the first HOUR (0: the next one, 60 at most) in which it is not UP.");
        KiteRoofs x = Check.with(ONE + "wind 0;");
        check.due("the next one", x.calm(0), 0);
        x = Check.with(ONE + "wind hour=0;");
        check.due("the one behind it", x.calm(0), 1);
        x = Check.with(GUSTS);
        check.due("with gusts as the SEED tells", x.calm(0), 2);
        // The 60th HOUR from now is hour 11 of day 2, the 61st hour 12.
        x = Check.with(ONE + "wind not (day=2 and hour=11);");
        check.due("the 60th", x.calm(0), 59);

        check.says(20, "CALM; NONE if 60 HOURS pass, or there is no such ROOF.");
        x = Check.with(ONE + "wind not (day=2 and hour=12);");
        check.due("60 pass", x.calm(0), -1);
        x.hour();
        check.due("59 pass", x.calm(0), 59);
        check.due("weight 0 is never DOWN", Check.with("roof r at 0 weight 0;").calm(0), -1);
        check.due("behind the last ROOF", x.calm(1), -1);
        check.due("ROOF -1", x.calm(-1), -1);
        for (int wrong : Check.FAR) {
            check.due("calm(" + wrong + ")", x.calm(wrong), -1);
        }
        check.due("without ROOFS", new KiteRoofs().calm(0), -1);
    }

    private void downs() {
        check.says(21, "How often a ROOF will be DOWN in the next n HOURS (0 .. 60; gusts as the SEED tells); NONE if one can't "
            + "be.");
        KiteRoofs x = Check.with(ONE + "wind 0;");
        check.due("in no HOURS", x.downs(0, 0), 0);
        check.due("in one", x.downs(0, 1), 1);
        check.due("in 60", x.downs(0, 60), 60);
        check.due("in 61", x.downs(0, 61), -1);
        check.due("in -1", x.downs(0, -1), -1);
        check.due("behind the last ROOF", x.downs(1, 1), -1);
        check.due("ROOF -1", x.downs(-1, 1), -1);
        for (int wrong : Check.FAR) {
            check.due("downs(0, " + wrong + ")", x.downs(0, wrong), -1);
            check.due("downs(" + wrong + ", 1)", x.downs(wrong, 1), -1);
        }
        x.hour();
        x.hour();
        check.due("what was before does not count", x.downs(0, 3), 3);
        x = Check.with("roof q at 0 weight 0;" + ONE + "wind 0;");
        x.hour();
        check.due("of the first ROOF", x.downs(0, 5), 0);
        check.due("of the last ROOF", x.downs(1, 5), 5);
        check.due("of the last ROOF, first", x.calm(1), 0);
        x = Check.with(GUSTS);
        check.due("by gusts: 2", x.downs(0, 2), 0);
        check.due("by gusts: 3", x.downs(0, 3), 1);
        check.due("by gusts: 4", x.downs(0, 4), 1);
        x = Check.with(ONE + "wind not (day=2 and hour=11);");
        check.due("59", x.downs(0, 59), 0);
        check.due("60", x.downs(0, 60), 1);
    }

    private void fraction(KiteRoofs x, int n, int upper, int lower) {
        check.due("odds(0, " + n + ", 0)", x.odds(0, n, 0), upper);
        check.due("odds(0, " + n + ", 1)", x.odds(0, n, 1), lower);
    }

    private void odds() {
        check.says(27, "ODDS of a ROOF: that it is UP in each of the next n HOURS, if in each there is a gust by as much as is "
            + "told, by itself, whatever the SEED is.");
        String inGusts = "roof r at 0 weight 6;kite a of r at 0 size 1 cord 99 height 1 tied;";
        int[] draws = {0, 9, 344, 999};
        for (int draw : draws) {
            KiteRoofs x = Check.with(inGusts + "gust 30 of 1;draw " + draw + ";");
            fraction(x, 1, 3, 10);
            fraction(x, 2, 9, 100);
            fraction(x, 4, 81, 10000);
        }
        // In a gust it lifts 6, which its cord does not bear: the ROOF is DOWN then.
        KiteRoofs x = Check.with("roof r at 0 weight 5;kite a of r at 0 size 1 cord 5 height 1 tied;gust 20 of 1;");
        fraction(x, 1, 4, 5);
        fraction(x, 2, 16, 25);
        // UP again behind an HOUR in which it was not: not in each.
        x = Check.with(ONE + "wind not hour=1;");
        fraction(x, 1, 1, 1);
        fraction(x, 2, 0, 1);
        fraction(x, 3, 0, 1);
    }

    private void oddsAnswers() {
        check.says(27, "ODDS (n 0 .. 4) the upper part (0), the lower part (1), in lowest terms (0 of 1); NONE if one can't be.");
        String inGusts = "roof r at 0 weight 6;kite a of r at 0 size 1 cord 99 height 1 tied;gust ";
        KiteRoofs x = Check.with(inGusts + "0 of 1;");
        fraction(x, 0, 1, 1);
        fraction(x, 1, 0, 1);
        fraction(x, 4, 0, 1);
        x = Check.with(inGusts + "100 of 1;");
        fraction(x, 0, 1, 1);
        fraction(x, 4, 1, 1);
        x = Check.with(inGusts + "1 of 1;");
        fraction(x, 4, 1, 100000000);
        x = Check.with(inGusts + "99 of 1;");
        fraction(x, 1, 99, 100);
        fraction(x, 4, 96059601, 100000000);
        x = Check.with(inGusts + "50 of 1;");
        fraction(x, 4, 1, 16);
        x = Check.with(inGusts + "35 of 1;");
        fraction(x, 1, 7, 20);
        check.due("n 5", x.odds(0, 5, 0), -1);
        check.due("n -1", x.odds(0, -1, 0), -1);
        check.due("part 2", x.odds(0, 1, 2), -1);
        check.due("part -1", x.odds(0, 1, -1), -1);
        check.due("behind the last ROOF", x.odds(1, 1, 0), -1);
        check.due("ROOF -1", x.odds(-1, 1, 0), -1);
        for (int wrong : Check.FAR) {
            check.due("odds(" + wrong + ", 1, 0)", x.odds(wrong, 1, 0), -1);
            check.due("odds(0, " + wrong + ", 0)", x.odds(0, wrong, 0), -1);
            check.due("odds(0, 1, " + wrong + ")", x.odds(0, 1, wrong), -1);
        }
        check.due("n 0 of no ROOF", new KiteRoofs().odds(0, 0, 0), -1);
    }

    private void law() {
        check.says(28, "LAW by k: how many more times ROOFS would be DOWN in the next 24 HOURS (gusts as the SEED tells), if of a "
            + "LIFT that CROSSES k of 10 parts (cut) were left, not half.");
        check.due("in all 24", Check.with(CROSSING + "wind 10;").law(4), 24);
        check.due("in the 24th alone", Check.with(CROSSING + "wind 5+(hour=23)*5;").law(4), 1);
        check.due("in the first alone", Check.with(CROSSING + "wind 5+(hour=0)*5;").law(4), 1);
        check.due("from the 25th on", Check.with(CROSSING + "wind 5+(day>0)*5;").law(4), 0);
        // By the SEEDS behind 9 there are 18 gusts in the next 24 HOURS.
        check.due("in gusts alone", Check.with(CROSSING + "gust 20 of 5;draw 9;").law(4), 18);
        check.due("in no gust", Check.with(CROSSING + "gust 0 of 5;draw 9;").law(4), 0);
        KiteRoofs x = Check.with(CROSSING.replace("weight 5", "weight 6") + "wind 10;");
        check.due("fewer times", x.law(6), -24);
        // 11 by 6 of 10 is 6.6, by 7 of 10 7.7.
        x = Check.with(CROSSING.replace("weight 5", "weight 7") + "wind 10;lift 11;");
        check.due("6, cut", x.law(6), 0);
        check.due("7, cut", x.law(7), -24);
        check.due("two ROOFS count twice", Check.with("roof q at 0 weight 5;" + CROSSING.replace("kite a of r at 0 size 1 cord 1",
            "kite a of q at 0 size 1 cord 99").replace("height 9", "height 9 tied") + "wind 10;").law(0), 48);
    }

    private void lawAnswers() {
        check.says(28, "LAW (k 0 .. 10); -1000 for another k.");
        KiteRoofs x = Check.with(CROSSING.replace("weight 5", "weight 10") + "wind 10;");
        check.due("9 of 10", x.law(9), 0);
        check.due("all", x.law(10), -24);
        check.due("none", x.law(0), 0);
        check.due("half", x.law(5), 0);
        x = Check.with(CROSSING.replace("weight 5", "weight 1") + "wind 10;");
        check.due("none of weight 1", x.law(0), 24);
        check.due("1 of 10 of weight 1", x.law(1), 0);
        check.due("11", x.law(11), -1000);
        check.due("-1", x.law(-1), -1000);
        for (int wrong : Check.FAR) {
            check.due("law(" + wrong + ")", x.law(wrong), -1000);
        }
        check.due("without ROOFS", new KiteRoofs().law(0), 0);
    }
}
