/** Promises 30 to 35: stolen, untell, later, spots, sure, ask. */
public final class StrangerTest {
    private static final Check CHECK = new Check();
    // PLACES 1, 5, 12 and 35 at heights 1, 4, 6 and 9; e is landed.
    private static final String TOWN = "roof r at 0 weight 5;"
        + "kite a of r at 0 size 1 cord 99 height 1 tied;"
        + "kite b of r at 1 size 1 cord 99 height 4 tied;"
        + "kite c of r at 6 size 1 cord 99 height 6 tied;"
        + "kite d of r at 19 size 1 cord 99 height 9 tied;"
        + "kite e of r at 9 size 1 cord 99 tied;"
        + "wind 10+(height=9)*8;";

    public static void main(String[] args) {
        telling();
        times();
        spots();
        sure();
        ask();
        whoFliesNow();
        CHECK.finish("StrangerTest");
    }

    private static void telling() {
        KiteRoofs x = Check.with(TOWN);
        CHECK.due("no such", x.stolen(5, true), -1);
        CHECK.due("no such", x.stolen(-1, true), -1);
        for (int i = 0; i < 30; i++) {
            CHECK.due("stolen", x.stolen(i % 5, false), i);
        }
        CHECK.due("30 at most", x.stolen(0, true), -1);
        CHECK.due("how many", x.about(10), 30);
        CHECK.due("untell", x.untell(29), true);
        CHECK.due("so already", x.untell(29), false);
        CHECK.due("no such", x.untell(30), false);
        CHECK.due("no such", x.untell(-1), false);
        CHECK.due("still 30", x.stolen(0, true), -1);
        CHECK.due("how many", x.about(10), 30);
        CHECK.due("no ACT", x.about(8), 0);
    }

    private static void times() {
        KiteRoofs x = Check.with(TOWN);
        CHECK.due("TIME", x.about(11), 0);
        CHECK.due("later", x.later(0), 0);
        CHECK.due("later", x.later(1000), 1000);
        CHECK.due("too much", x.later(1001), -1);
        CHECK.due("below 0", x.later(-1), -1);
        for (int i = 2; i <= 99; i++) {
            x.later(1000);
        }
        CHECK.due("later", x.later(999), 99999);
        CHECK.due("above 100,000", x.later(2), -1);
        CHECK.due("doing nothing", x.about(11), 99999);
        CHECK.due("100,000", x.later(1), 100000);
        CHECK.due("above 100,000", x.later(1), -1);
        CHECK.due("not later", x.later(0), 100000);
        x.stolen(0, true);
        CHECK.due("before", x.spots(99999), 270);
        CHECK.due("then", x.spots(100000), 8);
        Check.put(x, TOWN);
        x.town();
        CHECK.due("the TIME stays", x.about(11), 100000);
    }

    private static void spots() {
        KiteRoofs x = Check.with(TOWN);
        CHECK.due("nothing known", x.spots(0), 270);
        x.later(5);
        CHECK.due("NEAR a", x.stolen(0, true), 0);
        // PLACES 0 to 3, heights 1 and 2.
        CHECK.due("at 5", x.spots(5), 8);
        CHECK.due("at 4", x.spots(4), 270);
        CHECK.due("at -1", x.spots(-1), 270);
        CHECK.due("at any later one", x.spots(Integer.MAX_VALUE), 8);
        CHECK.due("at the least", x.spots(Integer.MIN_VALUE), 270);
        x.later(1);
        CHECK.due("not NEAR b", x.stolen(1, false), 1);
        // b is NEAR PLACES 3 to 7, heights 3 to 5: none of a's.
        CHECK.due("at 6", x.spots(6), 8);
        CHECK.due("untell", x.untell(0), true);
        CHECK.due("at 6, without a", x.spots(6), 270 - 15);
        CHECK.due("at 5, as was known then", x.spots(5), 8);
        x.later(1);
        CHECK.due("untell", x.untell(1), true);
        CHECK.due("at 7", x.spots(7), 270);
        CHECK.due("at 6", x.spots(6), 255);
        CHECK.due("told at 7", x.stolen(2, true), 2);
        CHECK.due("untold at the same", x.untell(2), true);
        CHECK.due("does not count then", x.spots(7), 270);
        CHECK.due("told again", x.stolen(2, true), 3);
        CHECK.due("15", x.spots(7), 15);
        CHECK.due("and not", x.stolen(2, false), 4);
        CHECK.due("none", x.spots(7), 0);
        x = Check.with(TOWN);
        x.stolen(3, true);
        CHECK.due("d is NEAR PLACES 33 to 37 alone", x.spots(0), 0);
        x.untell(0);
        x.stolen(3, false);
        CHECK.due("not NEAR d", x.spots(0), 270);
    }

    private static void sure() {
        KiteRoofs x = Check.with(TOWN);
        CHECK.due("not sure", x.sure(0), -2);
        x.stolen(1, true);
        CHECK.due("heights 3 to 5", x.sure(0), -2);
        x.fly(0, 2);
        x.stolen(0, true);
        CHECK.due("a at PLACE 2, height 2", x.kite(0, 4), 2);
        CHECK.due("b at PLACE 5", x.kite(1, 4), 5);
        CHECK.due("PLACES 3 and 4, height 3", x.spots(0), 2);
        CHECK.due("sure", x.sure(0), 3);
        CHECK.due("not at -1", x.sure(-1), -2);
        x.stolen(2, true);
        CHECK.due("no SPOTS", x.sure(0), -1);
    }

    private static void ask() {
        KiteRoofs x = Check.with(TOWN);
        // NEAR a 8, b 15, c 15, d 0 of 270: b is the first of the best.
        CHECK.due("b", x.ask(0, 0), 1);
        CHECK.due("255 left", x.ask(1, 0), 255);
        CHECK.due("no such what", x.ask(2, 0), -1);
        CHECK.due("no such what", x.ask(-1, 0), -1);
        x.stolen(1, true);
        // PLACES 3 to 7, heights 3 to 5. With a at height 2 and PLACE 2: PLACES 3, 4 at height 3.
        x.fly(0, 2);
        CHECK.due("a", x.ask(0, 0), 0);
        CHECK.due("13 left", x.ask(1, 0), 13);
        // With c at height 5 and PLACE 11 none is NEAR it; at height 0 it does not FLY; d at 1: PLACE 20.
        x.fly(2, 3);
        // c at height 3, PLACE 9: PLACES 7 at heights 3, 4: 2 of 15, a is still the first.
        CHECK.due("a is the first of like ones", x.ask(0, 0), 0);
        x.fly(0, 0);
        CHECK.due("c", x.ask(0, 0), 2);
        CHECK.due("13 left", x.ask(1, 0), 13);
        x.later(1);
        x.stolen(1, false);
        CHECK.due("no SPOTS", x.ask(0, 1), -1);
        CHECK.due("no SPOTS", x.ask(1, 1), -1);
        CHECK.due("as known before", x.ask(0, 0), 2);
        for (int k = 0; k < 5; k++) {
            x.fly(k, 0);
        }
        CHECK.due("none FLIES", x.ask(0, 0), -1);
        CHECK.due("none FLIES", x.ask(1, 0), -1);
        x.fly(4, 9);
        CHECK.due("the one that FLIES now", x.ask(0, -1), 4);
        x.fly(4, 0);
        x.fly(2, 9);
        CHECK.due("another one", x.ask(0, -1), 2);
        CHECK.due("none in an empty TOWN", new KiteRoofs().ask(0, 0), -1);
    }

    private static void whoFliesNow() {
        KiteRoofs x = Check.with(TOWN);
        x.stolen(4, true);
        CHECK.due("e does not FLY", x.spots(0), 270);
        x.fly(4, 1);
        // e at PLACE 10: PLACES 8 to 12, heights 1 and 2.
        CHECK.due("e FLIES", x.spots(0), 10);
        x.fly(4, 5);
        CHECK.due("by where it is now", x.spots(0), 15);
        x.undo();
        x.undo();
        CHECK.due("it does not any more", x.spots(0), 270);
        CHECK.due("it stays told", x.about(10), 1);
    }
}
