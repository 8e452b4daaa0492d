/** Promises 6 to 11: kite, roof, boy, force, near, up, and about(0) to about(7). */
public final class SkyTest {
    private static final Check CHECK = new Check();

    public static void main(String[] args) {
        forces();
        formulas();
        wraps();
        places();
        pairs();
        lifts();
        held();
        cords();
        roofs();
        wrongInputs();
        CHECK.finish("SkyTest");
    }

    private static KiteRoofs wind(String wind) {
        return Check.with("roof r at 1 weight 1;kite k of r at 1 size 3 cord 99 height 2;wind " + wind + ";");
    }

    private static void forces() {
        KiteRoofs x = new KiteRoofs();
        CHECK.due("usual wind", x.force(1, 0), 5);
        CHECK.due("usual gust", x.force(9, 1), 6);
        x = Check.with("wind height*3-5;gust 1 of 4;");
        CHECK.due("0 at least", x.force(1, 0), 0);
        CHECK.due("2 more", x.force(1, 1), 2);
        CHECK.due("force(4)", x.force(4, 0), 7);
        CHECK.due("force(4) in a gust", x.force(4, 1), 11);
        CHECK.due("force(8)", x.force(8, 0), 19);
        CHECK.due("20 at most", x.force(9, 0), 20);
        CHECK.due("20 at most in a gust", x.force(8, 1), 20);
        CHECK.due("force(0)", x.force(0, 0), -1);
        CHECK.due("force(10)", x.force(10, 0), -1);
        CHECK.due("gust 2", x.force(3, 2), -1);
        CHECK.due("gust -1", x.force(3, -1), -1);
        x = wind("size+force+near+age+7");
        CHECK.due("no kite's values in wind", x.force(2, 0), 7);
        x = wind("hour+day*10");
        for (int i = 0; i < 25; i++) {
            x.hour();
        }
        CHECK.due("hour 1 of day 1", x.force(2, 0), 11);
    }

    private static void formulas() {
        CHECK.due("from left", wind("20-5-3").force(1, 0), 12);
        CHECK.due("terms first", wind("2+3*4").force(1, 0), 14);
        CHECK.due("terms from left", wind("100/10*2%12").force(1, 0), 8);
        CHECK.due("cut to 0", wind("(0-7)/2+10").force(1, 0), 7);
        CHECK.due("its rest", wind("(0-7)%3+10").force(1, 0), 9);
        CHECK.due("/ by 0", wind("7/0+3").force(1, 0), 3);
        CHECK.due("% by 0", wind("7%0+3").force(1, 0), 3);
        CHECK.due("or is 1", wind("7 or 0").force(1, 0), 1);
        CHECK.due("or is 0", wind("0 or 0").force(1, 0), 0);
        CHECK.due("and is 1", wind("7 and 9").force(1, 0), 1);
        CHECK.due("and is 0", wind("7 and 0").force(1, 0), 0);
        CHECK.due("and before or", wind("1 or 0 and 0").force(1, 0), 1);
        CHECK.due("not", wind("not 5").force(1, 0), 0);
        CHECK.due("not of a relation", wind("not 1=2").force(1, 0), 1);
        CHECK.due("not before and", wind("not 0 and 0").force(1, 0), 0);
        CHECK.due("not not", wind("not not 5").force(1, 0), 1);
        CHECK.due("<", wind("(3<4)+(4<4)*2+(5<4)*4").force(1, 0), 1);
        CHECK.due(">", wind("(3>4)+(4>4)*2+(5>4)*4").force(1, 0), 4);
        CHECK.due("=", wind("(3=4)+(4=4)*2+(5=4)*4").force(1, 0), 2);
        CHECK.due("sums first", wind("1+2=3").force(1, 0), 1);
        CHECK.due("below 0 is not 0", wind("(0-1) and 1").force(1, 0), 1);
    }

    private static void wraps() {
        // 2,999,400,030 is above the most int and below its double: it wraps below 0.
        CHECK.due("wraps below 0", wind("9999*9999*30").force(1, 0), 0);
        CHECK.due("does not wrap", wind("9999*9999*20").force(1, 0), 20);
        String most = "(8192*8192*32-1)";
        CHECK.due("the most int", wind(most + "%1000/100").force(1, 0), 6);
        CHECK.due("one more wraps", wind("(" + most + "+1)<0").force(1, 0), 1);
        CHECK.due("the sum with the gust wraps", Check.with("gust 1 of 1;wind " + most + ";").force(1, 1), 0);
        CHECK.due("without it", Check.with("gust 1 of 1;wind " + most + ";").force(1, 0), 20);
        CHECK.due("least by -1 wraps", wind("((8192*8192*32)/(0-1))<0").force(1, 0), 1);
        CHECK.due("its rest", wind("(8192*8192*32)%(0-1)+2").force(1, 0), 2);
    }

    private static final String PAIRS = "roof r at 0 weight 10;"
        + "kite a of r at 0 size 2 cord 99 height 9 tied;" // PLACE 9
        + "kite b of r at 5 size 3 cord 99 height 3 tied;" // PLACE 8: crosses a
        + "kite c of r at 7 size 1 cord 99 height 4 tied;" // PLACE 11: near d, crosses nothing
        + "kite d of r at 8 size 5 cord 99 height 5 tied;" // PLACE 13
        + "kite e of r at 5 size 1 cord 99 height 2 tied;" // PLACE 7: near b; same spool: no crossing; crosses a
        + "kite f of r at 9 size 1 cord 99;"
        + "wind 10;";

    private static void places() {
        KiteRoofs x = Check.with(PAIRS);
        int[] due = {9, 8, 11, 13, 7, 9};
        for (int k = 0; k < due.length; k++) {
            CHECK.due("PLACE of " + k, x.kite(k, 4), due[k]);
        }
        x = Check.with("roof r at 0 weight 1;kite a of r at 3 size 2 cord 99 height 3;wind 13;");
        CHECK.due("13 * 3 by 10, cut", x.kite(0, 4), 6);
        x.fly(0, 0);
        CHECK.due("its spool", x.kite(0, 4), 3);
    }

    private static void pairs() {
        KiteRoofs x = Check.with(PAIRS);
        int[] near = {0, 16, 8, 4, 2, 0};
        int[] cross = {18, 1, 0, 0, 1, 0};
        for (int k = 0; k < near.length; k++) {
            CHECK.due("NEAR " + k, x.near(k, 0), near[k]);
            CHECK.due("CROSSES " + k, x.near(k, 1), cross[k]);
        }
        // Height 3 and 4 differ by 1, PLACES 8 and 11 by 3: not NEAR.
        CHECK.due("b and c", x.near(1, 0) & 4, 0);
        // At like PLACES nothing crosses: a at PLACE 8 as b.
        x.fly(0, 8);
        CHECK.due("like PLACES", x.near(0, 1), 16);
        CHECK.due("FLY", x.about(6), 31);
    }

    private static void lifts() {
        KiteRoofs x = Check.with(PAIRS);
        int[] lift = {10, 15, 10, 50, 5, 0};
        for (int k = 0; k < lift.length; k++) {
            CHECK.due("LIFT of " + k, x.kite(k, 5), lift[k]);
            CHECK.due("PULL of " + k, x.kite(k, 7), lift[k]);
        }
        x = Check.with(PAIRS + "lift height*100+hour*1000+day*1000+size*10+force+near+age*1000;");
        int[] told = {(900 + 20 + 10) / 2, (300 + 30 + 10 + 1) / 2, 400 + 10 + 10 + 1, 500 + 50 + 10 + 1,
            (200 + 10 + 10 + 1) / 2, 0};
        for (int k = 0; k < told.length; k++) {
            CHECK.due("told LIFT of " + k, x.kite(k, 5), told[k]);
        }
        x = Check.with("roof r at 0 weight 1;kite a of r at 0 size 1 cord 99 height 2 tied;lift hour*10+day*100+age;");
        for (int i = 0; i < 3; i++) {
            x.hour();
        }
        CHECK.due("by hour and age", x.kite(0, 5), 33);
        x = Check.with("roof r at 0 weight 1;kite a of r at 0 size 1 cord 99 height 2;kite b of r at 9 size 1 cord 99 height 2;"
            + "lift age+day*10;");
        for (int i = 0; i < 25; i++) {
            x.hour();
        }
        CHECK.due("by its own age, and by day", x.kite(1, 5), 35);
        x = Check.with(PAIRS + "lift 9999;");
        CHECK.due("999 at most", x.kite(3, 5), 999);
        CHECK.due("then half, cut", x.kite(0, 5), 499);
        x = Check.with(PAIRS + "lift 0-3;");
        CHECK.due("0 at least", x.kite(3, 5), 0);
    }

    private static void held() {
        KiteRoofs x = Check.with("roof r at 0 weight 10;"
            + "kite a of r at 0 size 2 cord 99 height 1;"
            + "kite b of r at 6 size 3 cord 99 height 5;"
            + "kite c of r at 12 size 3 cord 99 height 1 tied;"
            + "kite d of r at 18 size 3 cord 99 height 9;"
            + "boy tom arms 25 hours 1;boy ned arms 24;holds tom a;holds tom b;");
        CHECK.due("tom", x.kite(0, 1), 0);
        CHECK.due("tied", x.kite(2, 1), -2);
        CHECK.due("neither", x.kite(3, 1), -1);
        CHECK.due("just as strong: a", x.kite(0, 6), 1);
        CHECK.due("just as strong: b", x.kite(1, 6), 1);
        CHECK.due("tied", x.kite(2, 6), 1);
        CHECK.due("neither", x.kite(3, 6), 0);
        CHECK.due("neither pulls", x.kite(3, 7), 0);
        CHECK.due("neither lifts", x.kite(3, 5), 15);
        CHECK.due("arms", x.boy(0, 0), 25);
        CHECK.due("hours told", x.boy(0, 1), 1);
        CHECK.due("hours not told", x.boy(1, 1), 4);
        CHECK.due("load", x.boy(0, 2), 25);
        CHECK.due("these", x.boy(0, 3), 3);
        CHECK.due("none", x.boy(1, 3), 0);
        x.give(0, 1);
        x.give(1, 1);
        CHECK.due("too weak: a", x.kite(0, 6), 0);
        CHECK.due("too weak: b", x.kite(1, 6), 0);
        CHECK.due("too weak pulls", x.kite(1, 7), 0);
        CHECK.due("load all the same", x.boy(1, 2), 25);
        x.fly(0, 0);
        CHECK.due("strong enough for one", x.kite(1, 6), 1);
        CHECK.due("landed is not HELD", x.kite(0, 6), 0);
        CHECK.due("these that FLY", x.boy(1, 3), 2);
        x.give(1, 0);
        x.hour();
        CHECK.due("no hours left", x.boy(0, 1), 0);
        CHECK.due("no hours left", x.kite(1, 6), 0);
    }

    private static void cords() {
        KiteRoofs x = Check.with("roof r at 0 weight 5;kite a of r at 0 size 1 cord 5 height 1 tied;"
            + "kite b of r at 9 size 1 cord 1 height 1;");
        CHECK.due("bears just that", x.kite(0, 7), 5);
        CHECK.due("bears", x.kite(0, 8), 5);
        for (int i = 0; i < 9; i++) {
            CHECK.due("up", x.hour(), 0);
        }
        CHECK.due("AGE 9", x.kite(0, 3), 9);
        CHECK.due("AGE 9 bears", x.kite(0, 8), 5);
        x.hour();
        CHECK.due("AGE 10 bears", x.kite(0, 8), 4);
        CHECK.due("PULLS no more", x.kite(0, 7), 0);
        CHECK.due("HELD all the same", x.kite(0, 6), 1);
        CHECK.due("DOWN", x.hour(), 1);
        CHECK.due("LOST", x.kite(0, 2), 1);
        CHECK.due("LOST as bits", x.about(7), 1);
        CHECK.due("its height stays", x.kite(0, 0), 1);
        CHECK.due("its AGE", x.kite(0, 3), 11);
        CHECK.due("FLIES no more", x.about(6), 2);
        CHECK.due("its PLACE is its spool", x.kite(0, 4), 0);
        CHECK.due("its LIFT", x.kite(0, 5), 0);
        CHECK.due("not HELD", x.kite(0, 6), 0);
        CHECK.due("one that is not HELD is not LOST", x.kite(1, 2), 0);
        for (int i = 0; i < 5; i++) {
            x.hour();
        }
        CHECK.due("AGE stands still", x.kite(0, 3), 11);
        CHECK.due("AGE of one not HELD", x.kite(1, 3), 16);
        CHECK.due("0 at least", x.kite(1, 8), 0);
        for (int i = 0; i < 5; i++) {
            x.hour();
        }
        CHECK.due("0 at least", x.kite(1, 8), 0);
    }

    private static void roofs() {
        KiteRoofs x = Check.with("roof a at 3 weight 10;roof b at 7 weight 11;roof c at 19 weight 0;"
            + "kite p of a at 0 size 1 cord 99 height 1 tied;kite q of b at 6 size 2 cord 99 height 1 tied;"
            + "kite s of a at 12 size 1 cord 99 height 1 tied;");
        CHECK.due("weight", x.roof(0, 0), 10);
        CHECK.due("PULLS", x.roof(0, 1), 10);
        CHECK.due("just UP", x.roof(0, 2), 1);
        CHECK.due("not UP", x.roof(1, 2), 0);
        CHECK.due("weight 0 is UP", x.roof(2, 2), 1);
        CHECK.due("KITES", x.roof(0, 4), 5);
        CHECK.due("KITES", x.roof(1, 4), 2);
        CHECK.due("KITES", x.roof(2, 4), 0);
        CHECK.due("YARD", x.roof(2, 5), 19);
        CHECK.due("up()", x.up(), 5);
        CHECK.due("hour()", x.hour(), 2);
        CHECK.due("DOWN once", x.roof(1, 3), 1);
        CHECK.due("never DOWN", x.roof(0, 3), 0);
        CHECK.due("its ROOF", x.kite(1, 9), 1);
    }

    private static void wrongInputs() {
        KiteRoofs x = Check.with(PAIRS + "boy b arms 1;");
        int[] wrong = {Integer.MIN_VALUE, -1, 6, 8, Integer.MAX_VALUE};
        for (int k : wrong) {
            CHECK.due("kite " + k, x.kite(k, 0), -3);
            CHECK.due("near " + k, x.near(k, 0), -1);
            CHECK.due("roof " + k, x.roof(k, 0), -1);
            CHECK.due("boy " + k, x.boy(k, 0), -1);
            CHECK.due("roof what " + k, x.roof(0, k), -1);
            CHECK.due("boy what " + k, x.boy(0, k), -1);
            CHECK.due("near what " + k, x.near(0, k), -1);
        }
        CHECK.due("kite what -1", x.kite(0, -1), -3);
        CHECK.due("kite what 10", x.kite(0, 10), -3);
        CHECK.due("near what 2", x.near(0, 2), -1);
        CHECK.due("boy what 4", x.boy(0, 4), -1);
        CHECK.due("about -1", x.about(-1), -1);
        CHECK.due("about 15", x.about(15), -1);
        CHECK.due("about KITES", x.about(0), 6);
        CHECK.due("about ROOFS", x.about(1), 1);
        CHECK.due("about BOYS", x.about(2), 1);
    }
}
