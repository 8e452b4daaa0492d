/** Promises 12 to 18 and 36 to 38: fly, tie, give, mend, hour, undo, redo, image, back, about. */
public final class ActsTest {
    private static final Check CHECK = new Check();
    private static final String TOWN = "roof r at 0 weight 6;"
        + "kite a of r at 0 size 1 cord 4 height 1 tied;" // lifts 5: is LOST in the first hour
        + "kite b of r at 6 size 1 cord 99 height 2;"
        + "kite c of r at 12 size 1 cord 99;"
        + "boy tom arms 9 hours 2;boy ned arms 4;holds tom b;";

    public static void main(String[] args) {
        flying();
        handing();
        mending();
        hours();
        days();
        gusts();
        lastHour();
        undoing();
        fortyAreKept();
        nothingDoneIsNoAct();
        images();
        CHECK.finish("ActsTest");
    }

    private static void flying() {
        KiteRoofs x = Check.with(TOWN);
        CHECK.due("fly", x.fly(2, 9), 0);
        CHECK.due("height", x.kite(2, 0), 9);
        CHECK.due("the same", x.fly(2, 9), -1);
        CHECK.due("higher", x.fly(2, 10), -1);
        CHECK.due("lower", x.fly(2, -1), -1);
        CHECK.due("land", x.fly(2, 0), 9);
        CHECK.due("land again", x.fly(2, 0), -1);
        CHECK.due("no such", x.fly(3, 1), -1);
        CHECK.due("no such", x.fly(-1, 1), -1);
        CHECK.due("two ACTS", x.about(8), 2);
        x.hour();
        CHECK.due("LOST", x.fly(0, 2), -1);
        CHECK.due("LOST can't be landed", x.fly(0, 0), -1);
        CHECK.due("three ACTS", x.about(8), 3);
    }

    private static void handing() {
        KiteRoofs x = Check.with(TOWN);
        CHECK.due("tied already", x.tie(0), -3);
        CHECK.due("tie what tom has", x.tie(1), 0);
        CHECK.due("tied", x.kite(1, 1), -2);
        CHECK.due("tie what nobody has", x.tie(2), -1);
        CHECK.due("tie none", x.tie(3), -3);
        CHECK.due("tie none", x.tie(-1), -3);
        CHECK.due("give what is tied", x.give(2, 1), -2);
        CHECK.due("ned has it", x.kite(2, 1), 1);
        CHECK.due("ned has it already", x.give(2, 1), -3);
        CHECK.due("from ned to tom", x.give(2, 0), 1);
        CHECK.due("let go", x.give(2, KiteRoofs.NONE), 0);
        CHECK.due("neither", x.kite(2, 1), -1);
        CHECK.due("let go again", x.give(2, KiteRoofs.NONE), -3);
        CHECK.due("to nobody's", x.give(2, 1), -1);
        CHECK.due("let go what is tied", x.give(0, KiteRoofs.NONE), -2);
        CHECK.due("no such BOY", x.give(0, 2), -3);
        CHECK.due("no such BOY", x.give(0, -2), -3);
        CHECK.due("no such KITE", x.give(3, 0), -3);
        CHECK.due("no such KITE", x.give(-1, 0), -3);
        CHECK.due("ACTS", x.about(8), 7);
    }

    private static void mending() {
        KiteRoofs x = Check.with(TOWN);
        CHECK.due("not LOST", x.mend(0), -1);
        x.hour();
        CHECK.due("LOST", x.about(7), 1);
        CHECK.due("not LOST", x.mend(1), -1);
        CHECK.due("no such", x.mend(3), -1);
        CHECK.due("no such", x.mend(-1), -1);
        CHECK.due("mend", x.mend(0), 1);
        CHECK.due("AGE", x.kite(0, 3), 0);
        CHECK.due("height", x.kite(0, 0), 0);
        CHECK.due("LOST", x.kite(0, 2), 0);
        CHECK.due("still tied", x.kite(0, 1), -2);
        CHECK.due("mend again", x.mend(0), -1);
        CHECK.due("fly again", x.fly(0, 1), 0);
        CHECK.due("ACTS", x.about(8), 3);
        x = Check.with("roof r at 0 weight 6;kite a of r at 0 size 1 cord 99 height 1 tied;"
            + "kite b of r at 9 size 1 cord 6 height 1 tied;lift 5+hour/9;");
        for (int i = 0; i < 19; i++) {
            x.hour();
        }
        CHECK.due("b was LOST in hour 10", x.mend(1), 11);
        CHECK.due("its AGE", x.kite(1, 3), 0);
        CHECK.due("a's AGE", x.kite(0, 3), 19);
    }

    private static void hours() {
        KiteRoofs x = Check.with(TOWN);
        // a is HELD, but its cord does not bear 5: b alone pulls 5 of 6.
        CHECK.due("DOWN", x.hour(), 1);
        CHECK.due("often", x.roof(0, 3), 1);
        CHECK.due("AGE of a", x.kite(0, 3), 1);
        CHECK.due("AGE of b", x.kite(1, 3), 1);
        CHECK.due("AGE of one landed", x.kite(2, 3), 0);
        CHECK.due("tom", x.boy(0, 1), 1);
        CHECK.due("ned", x.boy(1, 1), 4);
        CHECK.due("hour", x.about(3), 1);
        CHECK.due("SEED", x.about(5), 71);
        x.give(2, 1);
        x.hour();
        CHECK.due("tom", x.boy(0, 1), 0);
        CHECK.due("ned holds one that is landed", x.boy(1, 1), 4);
        CHECK.due("SEED", x.about(5), (71 * 137 + 71) % 1000);
        x.hour();
        CHECK.due("0 at least", x.boy(0, 1), 0);
        CHECK.due("DOWN thrice", x.roof(0, 3), 3);
        // One that is too heavy for ned, so not HELD, costs him an hour all the same.
        x.fly(2, 1);
        x.hour();
        CHECK.due("ned", x.boy(1, 1), 3);
        CHECK.due("not LOST", x.kite(2, 2), 0);
    }

    private static void days() {
        KiteRoofs x = Check.with(TOWN);
        for (int i = 0; i < 23; i++) {
            x.hour();
        }
        CHECK.due("hour 23", x.about(3), 23);
        CHECK.due("day 0", x.about(4), 0);
        CHECK.due("tom", x.boy(0, 1), 0);
        x.hour();
        CHECK.due("hour 0", x.about(3), 0);
        CHECK.due("day 1", x.about(4), 1);
        CHECK.due("tom has all hours", x.boy(0, 1), 2);
    }

    private static void gusts() {
        // SEEDS behind 9: 304, 719, 574, 709: a gust if the rest by 100 is less than told.
        String town = "roof r at 0 weight 6;kite a of r at 0 size 1 cord 99 height 1 tied;draw 9;gust ";
        KiteRoofs x = Check.with(town + "4 of 1;");
        CHECK.due("4 is not less than 4", x.hour(), 1);
        x = Check.with(town + "5 of 1;");
        CHECK.due("4 is less than 5", x.hour(), 0);
        CHECK.due("19 is not", x.hour(), 1);
        CHECK.due("74 is not", x.hour(), 1);
        CHECK.due("9 is not", x.hour(), 1);
        CHECK.due("SEED", x.about(5), 709);
        x = Check.with(town + "100 of 1;");
        for (int i = 0; i < 10; i++) {
            CHECK.due("always", x.hour(), 0);
        }
        CHECK.due("now is without a gust", x.up(), 0);
        x = Check.with(town + "0 of 1;");
        for (int i = 0; i < 10; i++) {
            CHECK.due("never", x.hour(), 1);
        }
    }

    private static void lastHour() {
        KiteRoofs x = Check.with("roof r at 0 weight 1;");
        for (int i = 0; i < 23999; i++) {
            x.hour();
        }
        CHECK.due("hour 23", x.about(3), 23);
        CHECK.due("day 999", x.about(4), 999);
        int seed = x.about(5);
        CHECK.due("none more", x.hour(), -1);
        CHECK.due("nothing done", x.about(5), seed);
        CHECK.due("often DOWN", x.roof(0, 3), 23999);
        CHECK.due("will goes on", x.will(60), 0);
        CHECK.due("calm goes on", x.calm(0), 0);
        CHECK.due("downs goes on", x.downs(0, 60), 60);
        CHECK.due("odds go on", x.odds(0, 4, 1), 1);
        CHECK.due("law goes on", x.law(3), 0);
        x.undo();
        CHECK.due("hour 22", x.about(3), 22);
        CHECK.due("one more", x.hour(), 1);
        x = Check.with("roof r at 0 weight 1;kite a of r at 0 size 1 cord 9 tied;wind (day=1000)*3;");
        for (int i = 0; i < 23999; i++) {
            x.hour();
        }
        x.fly(0, 1);
        CHECK.due("day 999 is calm", x.will(1), 0);
        CHECK.due("day 1000 is not", x.will(2), 1);
    }

    private static void undoing() {
        KiteRoofs x = Check.with(TOWN);
        CHECK.due("nothing to undo", x.undo(), false);
        CHECK.due("nothing to redo", x.redo(), false);
        x.fly(2, 4);
        x.give(2, 1);
        x.hour();
        x.mend(0);
        CHECK.due("ACTS", x.about(8), 4);
        CHECK.due("undo mend", x.undo(), true);
        CHECK.due("LOST", x.about(7), 1);
        CHECK.due("AGE", x.kite(0, 3), 1);
        CHECK.due("height", x.kite(0, 0), 1);
        CHECK.due("undo hour", x.undo(), true);
        CHECK.due("hour", x.about(3), 0);
        CHECK.due("SEED", x.about(5), 0);
        CHECK.due("DOWN", x.roof(0, 3), 0);
        CHECK.due("tom", x.boy(0, 1), 2);
        CHECK.due("AGE", x.kite(0, 3), 0);
        CHECK.due("undo give", x.undo(), true);
        CHECK.due("neither", x.kite(2, 1), -1);
        CHECK.due("undone", x.about(8), 1);
        CHECK.due("can be done again", x.about(9), 3);
        CHECK.due("redo give", x.redo(), true);
        CHECK.due("ned", x.kite(2, 1), 1);
        CHECK.due("redo hour", x.redo(), true);
        CHECK.due("SEED", x.about(5), 71);
        CHECK.due("LOST", x.about(7), 1);
        CHECK.due("redo mend", x.redo(), true);
        CHECK.due("LOST", x.about(7), 0);
        CHECK.due("no more", x.redo(), false);
        x.undo();
        x.undo();
        CHECK.due("another ACT", x.tie(1), 0);
        CHECK.due("no redo behind it", x.redo(), false);
        CHECK.due("none", x.about(9), 0);
        CHECK.due("three", x.about(8), 3);
        x.undo();
        CHECK.due("tom has it", x.kite(1, 1), 0);
    }

    private static void fortyAreKept() {
        KiteRoofs x = Check.with(TOWN);
        for (int i = 0; i < 41; i++) {
            x.hour();
        }
        CHECK.due("40", x.about(8), 40);
        for (int i = 0; i < 40; i++) {
            CHECK.due("undo " + i, x.undo(), true);
        }
        CHECK.due("the oldest is gone", x.undo(), false);
        CHECK.due("hour 1", x.about(3), 1);
        CHECK.due("40 to redo", x.about(9), 40);
        for (int i = 0; i < 40; i++) {
            CHECK.due("redo " + i, x.redo(), true);
        }
        CHECK.due("no more", x.redo(), false);
        CHECK.due("hour 17", x.about(3), 17);
        CHECK.due("day 1", x.about(4), 1);
        for (int i = 0; i < 7; i++) {
            x.hour();
        }
        for (int i = 0; i < 40; i++) {
            x.undo();
        }
        CHECK.due("hour 8", x.about(3), 8);
    }

    private static void nothingDoneIsNoAct() {
        KiteRoofs x = Check.with(TOWN);
        x.fly(2, 4);
        x.undo();
        x.fly(2, 0);
        x.tie(0);
        x.give(2, -1);
        x.give(2, 5);
        x.mend(0);
        x.fly(9, 1);
        x.will(5);
        x.best(2, 0);
        x.fewest(0, 1);
        x.guard(0);
        x.crew(0);
        x.lend();
        x.law(0);
        x.odds(0, 4, 0);
        x.image(0);
        x.stolen(0, true);
        x.later(1);
        CHECK.due("none done", x.about(8), 0);
        CHECK.due("redo is still there", x.about(9), 1);
        CHECK.due("redo", x.redo(), true);
        CHECK.due("height", x.kite(2, 0), 4);
        CHECK.due("nothing passed", x.about(3), 0);
    }

    private static void images() {
        KiteRoofs x = Check.with(TOWN);
        CHECK.due("no such box", x.image(3), -1);
        CHECK.due("no such box", x.image(-1), -1);
        CHECK.due("nothing kept", x.back(1), -1);
        CHECK.due("no such box", x.back(3), -1);
        CHECK.due("no such box", x.back(-1), -1);
        CHECK.due("image", x.image(1), 0);
        for (int i = 0; i < 30; i++) {
            x.hour();
        }
        x.fly(2, 7);
        x.give(2, 1);
        CHECK.due("day 1", x.image(2), 1);
        x.undo();
        CHECK.due("back to day 0", x.back(1), 0);
        int[] due = {3, 1, 2, 0, 0, 0, 3, 0, 0, 0};
        for (int what = 0; what < due.length; what++) {
            CHECK.due("back about(" + what + ")", x.about(what), due[what]);
        }
        CHECK.due("AGE", x.kite(1, 3), 0);
        CHECK.due("tom", x.boy(0, 1), 2);
        CHECK.due("DOWN", x.roof(0, 3), 0);
        CHECK.due("undo", x.undo(), false);
        CHECK.due("redo", x.redo(), false);
        x.hour();
        CHECK.due("forward to day 1", x.back(2), 1);
        CHECK.due("hour 6", x.about(3), 6);
        CHECK.due("height", x.kite(2, 0), 7);
        CHECK.due("ned", x.kite(2, 1), 1);
        CHECK.due("LOST", x.about(7), 1);
        CHECK.due("DOWN", x.roof(0, 3), 30);
        CHECK.due("undo", x.undo(), false);
        CHECK.due("the box is kept", x.back(1), 0);
        CHECK.due("written over", x.image(2), 0);
        CHECK.due("day 0", x.back(2), 0);
        CHECK.due("gone on from", x.hour(), 1);
        CHECK.due("box 1 is as it was", x.back(1), 0);
        CHECK.due("hour 0", x.about(3), 0);
        CHECK.due("image in the first box", x.image(0), 0);
        x.hour();
        CHECK.due("back from the first box", x.back(0), 0);
        CHECK.due("hour 0", x.about(3), 0);
    }
}
