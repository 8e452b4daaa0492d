/** Promises 19 to 21, 27 and 28: will, calm, downs, odds, law. */
public final class AheadTest {
    private static final Check CHECK = new Check();

    public static void main(String[] args) {
        gustsAsTheSeedTells();
        farHours();
        lostAhead();
        boysAhead();
        odds();
        oddsGoOn();
        laws();
        lawsAhead();
        wrongInputs();
        CHECK.finish("AheadTest");
    }

    // SEEDS behind 9: 304, 719, 574, 709: with gust 20 there are gusts in the HOURS 1, 2 and 4.
    private static final String GUSTS = "roof r at 0 weight 6;roof q at 0 weight 5;"
        + "kite a of r at 0 size 1 cord 99 height 1 tied;kite b of q at 6 size 1 cord 99 height 1 tied;draw 9;gust 20 of 1;";

    private static void gustsAsTheSeedTells() {
        KiteRoofs x = Check.with(GUSTS);
        CHECK.due("now", x.up(), 2);
        CHECK.due("will(1)", x.will(1), 3);
        CHECK.due("will(2)", x.will(2), 3);
        CHECK.due("will(3)", x.will(3), 2);
        CHECK.due("will(4)", x.will(4), 3);
        CHECK.due("calm", x.calm(0), 2);
        CHECK.due("never calm", x.calm(1), -1);
        CHECK.due("downs 0", x.downs(0, 0), 0);
        CHECK.due("downs 2", x.downs(0, 2), 0);
        CHECK.due("downs 3", x.downs(0, 3), 1);
        CHECK.due("downs 4", x.downs(0, 4), 1);
        for (int i = 0; i < 3; i++) {
            x.hour();
        }
        CHECK.due("was DOWN", x.roof(0, 3), 1);
        CHECK.due("only what comes counts", x.downs(0, 1), 0);
        // SEEDS 709, 204, 19, 674: three gusts, then none.
        CHECK.due("calm from there", x.calm(0), 3);
        CHECK.due("nothing was done", x.about(3), 3);
        x = Check.with("roof q at 0 weight 0;roof r at 0 weight 1;");
        x.hour();
        x.hour();
        CHECK.due("of the second ROOF", x.downs(1, 7), 7);
        CHECK.due("of the first ROOF", x.downs(0, 7), 0);
    }

    private static void farHours() {
        // Calm in hour 0 of each day but the first: the 25th HOUR from now, and the 49th.
        KiteRoofs x = Check.with("roof r at 0 weight 1;kite a of r at 0 size 1 cord 99 height 1 tied;"
            + "wind not (hour=0 and day>0);");
        CHECK.due("will(24)", x.will(24), 1);
        CHECK.due("will(25)", x.will(25), 0);
        CHECK.due("will(49)", x.will(49), 0);
        CHECK.due("will(60)", x.will(60), 1);
        CHECK.due("calm", x.calm(0), 24);
        CHECK.due("downs 24", x.downs(0, 24), 0);
        CHECK.due("downs 60", x.downs(0, 60), 2);
        // The 60th HOUR from now is hour 11 of day 2, the 61st hour 12.
        x = Check.with("roof r at 0 weight 1;kite a of r at 0 size 1 cord 99 height 1 tied;wind not (hour=11 and day=2);");
        CHECK.due("the 60th", x.calm(0), 59);
        x = Check.with("roof r at 0 weight 1;kite a of r at 0 size 1 cord 99 height 1 tied;wind not (hour=12 and day=2);");
        CHECK.due("60 pass", x.calm(0), -1);
    }

    private static void lostAhead() {
        // Lifts hour + 1, bears 3: LOST in the HOUR of hour 3.
        KiteRoofs x = Check.with("roof r at 0 weight 1;kite a of r at 0 size 1 cord 3 height 1 tied;lift hour+1;");
        CHECK.due("will(3)", x.will(3), 1);
        CHECK.due("will(4)", x.will(4), 0);
        CHECK.due("LOST stays so on the next day", x.will(26), 0);
        CHECK.due("calm", x.calm(0), 3);
        CHECK.due("downs", x.downs(0, 60), 57);
        CHECK.due("not LOST now", x.about(7), 0);
    }

    private static void boysAhead() {
        KiteRoofs x = Check.with("roof r at 0 weight 1;kite a of r at 0 size 1 cord 99 height 1;"
            + "boy tom arms 9 hours 2;holds tom a;");
        CHECK.due("will(2)", x.will(2), 1);
        CHECK.due("will(3)", x.will(3), 0);
        CHECK.due("will(24)", x.will(24), 0);
        CHECK.due("next day", x.will(25), 1);
        CHECK.due("downs", x.downs(0, 60), 22 + 22 + 10);
        CHECK.due("tom now", x.boy(0, 1), 2);
    }

    private static void fraction(KiteRoofs x, int roof, int n, int upper, int lower) {
        CHECK.due("odds(" + roof + ", " + n + ", 0)", x.odds(roof, n, 0), upper);
        CHECK.due("odds(" + roof + ", " + n + ", 1)", x.odds(roof, n, 1), lower);
    }

    private static void odds() {
        KiteRoofs x = Check.with(GUSTS);
        fraction(x, 0, 0, 1, 1);
        fraction(x, 0, 1, 1, 5);
        fraction(x, 0, 2, 1, 25);
        fraction(x, 0, 4, 1, 625);
        fraction(x, 1, 4, 1, 1);
        x = Check.with(GUSTS.replace("gust 20", "gust 0"));
        fraction(x, 0, 0, 1, 1);
        fraction(x, 0, 1, 0, 1);
        fraction(x, 0, 4, 0, 1);
        x = Check.with(GUSTS.replace("gust 20", "gust 100"));
        fraction(x, 0, 4, 1, 1);
        x = Check.with(GUSTS.replace("gust 20", "gust 99"));
        fraction(x, 0, 4, 96059601, 100000000);
        x = Check.with(GUSTS.replace("gust 20", "gust 35").replace("weight 6", "weight 0"));
        fraction(x, 0, 3, 1, 1);
        x = Check.with(GUSTS.replace("gust 20", "gust 0").replace("draw 9;", ""));
        CHECK.due("whatever the SEED is", x.odds(1, 4, 0), 1);
    }

    private static void oddsGoOn() {
        // Bears 5, lifts 5, in a gust 6: the first gust tears it off, and the ROOF is DOWN in it and from then on.
        KiteRoofs x = Check.with("roof r at 0 weight 5;roof q at 0 weight 0;"
            + "kite a of r at 0 size 1 cord 5 height 1 tied;gust 30 of 1;");
        fraction(x, 0, 1, 7, 10);
        fraction(x, 0, 3, 343, 1000);
        fraction(x, 1, 4, 1, 1);
        // UP only in a gust in hour 0, only without one in hour 1.
        x = Check.with("roof r at 0 weight 1;kite a of r at 0 size 1 cord 9 height 1 tied;gust 30 of 1;"
            + "lift (force=6)=(hour=0);");
        fraction(x, 0, 1, 3, 10);
        fraction(x, 0, 2, 21, 100);
        x.hour();
        CHECK.due("now it is UP in what is left", x.odds(0, 1, 0), 7);
    }

    // a and b CROSS each day in the hours from 12 on, when the wind is 10: b lifts 10, half 5.
    private static final String CROSSING = "roof r at 0 weight 5;kite a of r at 0 size 1 cord 1 height 9;"
        + "kite b of r at 6 size 1 cord 99 height 1 tied;wind 5+(hour>11)*5;";

    private static void laws() {
        KiteRoofs x = Check.with(CROSSING);
        CHECK.due("half", x.law(5), 0);
        CHECK.due("4 of 10", x.law(4), 12);
        CHECK.due("none", x.law(0), 12);
        CHECK.due("6 of 10", x.law(6), 0);
        CHECK.due("all", x.law(10), 0);
        x = Check.with(CROSSING.replace("weight 5", "weight 6"));
        CHECK.due("half, too little", x.law(5), 0);
        CHECK.due("6 of 10", x.law(6), -12);
        CHECK.due("all", x.law(10), -12);
        CHECK.due("none", x.law(0), 0);
        CHECK.due("still half now", x.downs(0, 24), 24);
        // 11 by 6 of 10 is 6, cut.
        x = Check.with(CROSSING.replace("wind 5+(hour>11)*5", "lift 11;wind 10").replace("weight 5", "weight 7"));
        CHECK.due("6 of 10, cut", x.law(6), 0);
        CHECK.due("7 of 10, cut", x.law(7), -24);
        CHECK.due("now", x.kite(1, 5), 5);
    }

    private static void lawsAhead() {
        // With more of its LIFT left b is torn off when it crosses, and its ROOF is DOWN from then on.
        KiteRoofs x = Check.with("roof r at 0 weight 5;roof q at 0 weight 1;kite a of q at 0 size 1 cord 1 height 9;"
            + "kite b of r at 6 size 1 cord 9 height 1 tied;kite c of r at 19 size 1 cord 9;wind 5+(hour>11)*5;");
        // Its AGE takes 1 off what its cord bears from hour 10 on, 2 from hour 20 on.
        CHECK.due("7 of 10 hold", x.law(7), 0);
        CHECK.due("8 of 10 tear it in hour 20", x.law(8), 4);
        CHECK.due("9 of 10 tear it in hour 12", x.law(9), 12);
        x = Check.with("roof r at 0 weight 5;roof q at 0 weight 5;kite a of q at 0 size 1 cord 7 height 9 tied;"
            + "kite b of r at 2 size 1 cord 9 height 1 tied;wind 10;");
        CHECK.due("both by half", x.law(5), 0);
        CHECK.due("both are LOST in the first hour", x.law(10), 48);
        CHECK.due("a is LOST in the first, b crosses nothing in the second and is torn off", x.law(8), 47);
        CHECK.due("gusts are as the SEED tells", Check.with(GUSTS).law(0), 0);
        CHECK.due("without a ROOF", new KiteRoofs().law(10), 0);
    }

    private static void wrongInputs() {
        KiteRoofs x = Check.with(GUSTS);
        int[] wrong = {Integer.MIN_VALUE, -1, 2, 4, Integer.MAX_VALUE};
        for (int r : wrong) {
            CHECK.due("calm " + r, x.calm(r), -1);
            CHECK.due("downs " + r, x.downs(r, 3), -1);
            CHECK.due("odds " + r, x.odds(r, 1, 0), -1);
            CHECK.due("odds part " + r, x.odds(0, 1, r), -1);
        }
        CHECK.due("will(0)", x.will(0), -1);
        CHECK.due("will(-1)", x.will(-1), -1);
        CHECK.due("will(61)", x.will(61), -1);
        CHECK.due("downs(0, -1)", x.downs(0, -1), -1);
        CHECK.due("downs(0, 61)", x.downs(0, 61), -1);
        CHECK.due("odds(0, -1, 0)", x.odds(0, -1, 0), -1);
        CHECK.due("odds(0, 5, 0)", x.odds(0, 5, 0), -1);
        CHECK.due("law(-1)", x.law(-1), -1000);
        CHECK.due("law(11)", x.law(11), -1000);
        CHECK.due("without a ROOF", new KiteRoofs().calm(0), -1);
        CHECK.due("without a ROOF", new KiteRoofs().will(60), 0);
    }
}
