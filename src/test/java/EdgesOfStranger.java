/** The edges of promises 30 to 35: what is STOLEN, in two times, and where a stranger's kite can be. */
final class EdgesOfStranger {
    private static final int ALL = 270;

    private final Check check;

    EdgesOfStranger(Check check) {
        this.check = check;
    }

    void all() {
        stolen();
        untell();
        later();
        known();
        spots();
        sure();
        ask();
        askAnswers();
    }

    /** KITES told by their spools and heights, whose PLACES are their spools as there is no wind. */
    private static KiteRoofs still(int... spoolsAndHeights) {
        StringBuilder text = new StringBuilder("roof r at 0 weight 0;wind 0;");
        for (int i = 0; i + 1 < spoolsAndHeights.length; i += 2) {
            text.append("kite ").append((char) ('a' + i / 2)).append(" of r at ").append(spoolsAndHeights[i])
                .append(" size 1 cord 99 height ").append(spoolsAndHeights[i + 1]).append(" tied;");
        }
        return Check.with(text.toString());
    }

    private void stolen() {
        check.says(30, "STOLEN, 30 at most, is TOLD at a TIME (0 at first, goes on)");
        KiteRoofs x = still(10, 5);
        check.due("TIME", x.about(11), 0);
        x.stolen(0, true);
        check.due("TOLD at 0", x.spots(0), 15);
        for (int i = 1; i < 30; i++) {
            check.due("its number", x.stolen(0, true), i);
        }
        check.due("one more", x.stolen(0, true), -1);

        check.says(30, "A STOLEN: its number; NONE, doing nothing, if one can't be, or there are 30.");
        x = still(10, 5, 15, 0);
        check.due("behind the last KITE", x.stolen(2, true), -1);
        check.due("KITE -1", x.stolen(-1, true), -1);
        for (int wrong : Check.FAR) {
            check.due("stolen(" + wrong + ", true)", x.stolen(wrong, true), -1);
            check.due("stolen(" + wrong + ", false)", x.stolen(wrong, false), -1);
        }
        check.due("nothing was done", x.about(10), 0);
        check.due("the first", x.stolen(0, true), 0);
        check.due("of a landed KITE", x.stolen(1, false), 1);
        for (int i = 2; i < 30; i++) {
            check.due("another one", x.stolen(1, true), i);
        }
        check.due("there are 30", x.stolen(0, false), -1);
        check.due("nothing was done", x.about(10), 30);
        check.due("nothing was done", x.spots(0), 15);
        x.untell(0);
        check.due("UNTOLD ones are still there", x.stolen(0, false), -1);
        check.due("the last one is there", x.untell(29), true);
        check.due("in an empty TOWN", new KiteRoofs().stolen(0, true), -1);
        check.due("no ACT", x.about(8), 0);
    }

    private void untell() {
        check.says(31, "It is UNTOLD: true; false if it is so already, or there is none such.");
        KiteRoofs x = still(10, 5);
        check.due("none such", x.untell(0), false);
        x.stolen(0, true);
        check.due("behind the last", x.untell(1), false);
        check.due("untell(-1)", x.untell(-1), false);
        for (int wrong : Check.FAR) {
            check.due("untell(" + wrong + ")", x.untell(wrong), false);
        }
        check.due("it counts", x.spots(0), 15);
        check.due("untell(0)", x.untell(0), true);
        check.due("it does not count", x.spots(0), ALL);
        check.due("so already", x.untell(0), false);
        x.later(1);
        check.due("so already, later, too", x.untell(0), false);
        check.due("UNTOLD at 0 as before", x.spots(0), ALL);

        check.says(31, "UNTOLD at a later one or the same: a stranger's kite is NEAR a KITE, or is not.");
        x = still(10, 5);
        x.later(5);
        x.stolen(0, true);
        x.stolen(0, false);
        check.due("NEAR and not", x.spots(5), 0);
        x.untell(0);
        check.due("not NEAR", x.spots(5), ALL - 15);
        x.later(2);
        x.untell(1);
        check.due("at the later TIME", x.spots(7), ALL);
        check.due("before it", x.spots(6), ALL - 15);
    }

    private void later() {
        check.says(32, "So much later (0 .. 1000): the TIME");
        KiteRoofs x = new KiteRoofs();
        check.due("later(0)", x.later(0), 0);
        check.due("later(1)", x.later(1), 1);
        check.due("later(1000)", x.later(1000), 1001);
        check.due("about(11)", x.about(11), 1001);

        check.says(32, "NONE, doing nothing, for another number, or if it would be above 100,000.");
        check.due("later(1001)", x.later(1001), -1);
        check.due("later(-1)", x.later(-1), -1);
        check.due("far", x.later(Integer.MAX_VALUE), -1);
        check.due("far below", x.later(Integer.MIN_VALUE), -1);
        check.due("nothing was done", x.about(11), 1001);
        for (int i = 0; i < 98; i++) {
            x.later(1000);
        }
        check.due("99,001", x.about(11), 99001);
        check.due("100,001", x.later(1000), -1);
        check.due("nothing was done", x.about(11), 99001);
        check.due("100,000", x.later(999), 100000);
        check.due("1 more", x.later(1), -1);
        check.due("0 more", x.later(0), 100000);
        check.due("nothing was done", x.about(11), 100000);
    }

    private void known() {
        check.says(33, "As known at k that counts that was TOLD at k or before, not UNTOLD at k or before, of KITES that FLY "
            + "now.");
        KiteRoofs x = still(10, 5, 3, 0);
        x.later(5);
        x.stolen(0, true);
        x.later(5);
        x.untell(0);
        check.due("before it was TOLD", x.spots(4), ALL);
        check.due("as it was TOLD", x.spots(5), 15);
        check.due("before it was UNTOLD", x.spots(9), 15);
        check.due("as it was UNTOLD", x.spots(10), ALL);
        check.due("behind that", x.spots(11), ALL);
        check.due("at no TIME", x.spots(-1), ALL);
        check.due("at the least k", x.spots(Integer.MIN_VALUE), ALL);
        check.due("at the most k", x.spots(Integer.MAX_VALUE), ALL);
        x.stolen(0, false);
        check.due("at the most k what was not UNTOLD counts", x.spots(Integer.MAX_VALUE), ALL - 15);
        x.stolen(1, true);
        check.due("a landed KITE does not count", x.spots(10), ALL - 15);
        x.fly(1, 1);
        check.due("it FLIES", x.spots(10), 10);
        x.fly(1, 0);
        x.fly(0, 0);
        check.due("none FLIES", x.spots(10), ALL);
        check.due("none FLIES: as known before", x.spots(9), ALL);
        x = Check.with("roof r at 0 weight 0;kite a of r at 5 size 1 cord 4 height 3 tied;");
        x.stolen(0, true);
        check.due("by where it FLIES: PLACE 6", x.spots(0), 15);
        x.hour();
        check.due("LOST", x.spots(0), ALL);
        x.undo();
        check.due("not LOST", x.spots(0), 15);
    }

    /** Where the stranger's kite can be that is NEAR a KITE at this spool and height with this wind. */
    private static int nearOne(int spool, int height, int wind) {
        KiteRoofs x = Check.with("roof r at 0 weight 0;kite a of r at " + spool + " size 1 cord 999 height " + height
            + " tied;wind " + wind + ";");
        x.stolen(0, true);
        return x.spots(0);
    }

    private void spots() {
        check.says(33, "SPOTS: PLACES 0 .. 29 and heights 1 .. 9 by which all that count are so.");
        check.due("nothing counts", new KiteRoofs().spots(0), ALL);
        check.due("PLACE 10, height 5", nearOne(10, 5, 0), 15);
        check.due("PLACE 2", nearOne(2, 5, 0), 15);
        check.due("PLACE 1", nearOne(1, 5, 0), 12);
        check.due("PLACE 0", nearOne(0, 5, 0), 9);
        check.due("height 2", nearOne(10, 2, 0), 15);
        check.due("height 1", nearOne(10, 1, 0), 10);
        check.due("height 8", nearOne(10, 8, 0), 15);
        check.due("height 9", nearOne(10, 9, 0), 10);
        check.due("PLACE 0, height 1", nearOne(0, 1, 0), 6);
        // At height 9 from YARD 19: 9 times 10, 11, 12, 13, 14, 15 by 10.
        check.due("PLACE 28, height 9", nearOne(19, 9, 10), 8);
        check.due("PLACE 27, height 9", nearOne(18, 9, 10), 10);
        check.due("PLACE 29, height 9", nearOne(19, 9, 12), 6);
        check.due("PLACE 31, height 9", nearOne(19, 9, 14), 2);
        check.due("PLACE 32, height 9", nearOne(19, 9, 15), 0);

        check.says(33, "SPOTS: how many.");
        KiteRoofs x = still(10, 5, 11, 6);
        x.stolen(0, true);
        x.stolen(1, true);
        check.due("NEAR both: PLACES 9 to 12, heights 5 and 6", x.spots(0), 8);
        x.stolen(1, false);
        check.due("none", x.spots(0), 0);
        x = still(10, 5, 11, 6);
        x.stolen(0, true);
        x.stolen(1, false);
        check.due("NEAR the first alone", x.spots(0), 7);
        x.untell(0);
        check.due("not NEAR the second", x.spots(0), ALL - 15);
    }

    private void sure() {
        check.says(34, "SURE of the height: if it is the same in all.");
        // Two heights apart at one PLACE: NEAR both at the height between them, at five PLACES.
        KiteRoofs x = still(10, 4, 10, 6);
        x.stolen(0, true);
        x.stolen(1, true);
        check.due("SPOTS", x.spots(0), 5);
        check.due("between them", x.sure(0), 5);
        // Heights 1 and 2, but not 2; 8 and 9, but not 8.
        x = still(10, 1, 10, 3);
        x.stolen(0, true);
        check.due("1 or 2", x.sure(0), -2);
        x.stolen(1, false);
        check.due("the least", x.sure(0), 1);
        x = still(10, 9, 10, 7);
        x.stolen(0, true);
        x.stolen(1, false);
        check.due("the most", x.sure(0), 9);
        // Just one SPOT: PLACE 12 at height 5.
        x = still(10, 4, 14, 6);
        x.stolen(0, true);
        x.stolen(1, true);
        check.due("one", x.spots(0), 1);
        check.due("its height", x.sure(0), 5);

        check.says(34, "SURE: the height; -2 if it is not the same in all; NONE if there are no SPOTS.");
        check.due("nothing known", new KiteRoofs().sure(0), -2);
        check.due("as known before", x.sure(-1), -2);
        x.stolen(0, false);
        check.due("no SPOTS", x.sure(0), -1);
        x = still(10, 5);
        x.stolen(0, true);
        check.due("4, 5, 6", x.sure(0), -2);
        // Height 3 is left out by the other two.
        x = still(10, 2, 8, 4, 12, 4);
        x.stolen(0, true);
        x.stolen(1, false);
        x.stolen(2, false);
        check.due("1 and 2", x.sure(0), -2);
    }

    private void askIs(KiteRoofs x, int k, int kite, int left) {
        check.due("ask(0, " + k + ")", x.ask(0, k), kite);
        check.due("ask(1, " + k + ")", x.ask(1, k), left);
    }

    private void ask() {
        check.says(35, "ASK: the KITE that FLIES of which to hear whether it is NEAR it would leave the fewest of these at the "
            + "most; of like ones the first.");
        // NEAR the first are 15; NEAR the second 6 of these: 9 left; NEAR the third 8 of these: 8 left.
        KiteRoofs x = still(10, 5, 12, 6, 11, 6);
        askIs(x, 0, 0, ALL - 15);
        x.stolen(0, true);
        askIs(x, 0, 2, 8);
        x.fly(2, 0);
        askIs(x, 0, 1, 9);
        x.fly(1, 0);
        askIs(x, 0, 0, 15);
        askIs(x, -1, 0, ALL - 15);
        // Like ones: both leave the same.
        x = still(3, 5, 10, 5, 17, 5);
        askIs(x, 0, 0, ALL - 15);
        x.fly(0, 0);
        askIs(x, 0, 1, ALL - 15);
        x.fly(0, 9);
        askIs(x, 0, 1, ALL - 15);
        // Just one SPOT is left whatever is heard.
        x = still(10, 4, 14, 6);
        x.stolen(0, true);
        x.stolen(1, true);
        askIs(x, 0, 0, 1);
        // One of which nothing can be heard leaves all.
        x = Check.with("roof r at 0 weight 0;kite a of r at 19 size 1 cord 999 height 9 tied;wind 20;");
        askIs(x, 0, 0, ALL);
    }

    private void askAnswers() {
        check.says(35, "ASK what 0: the KITE, 1: how many are left at the most; NONE if there are no SPOTS, none FLIES, or for "
            + "another what.");
        KiteRoofs x = still(10, 5);
        for (int wrong : Check.FAR) {
            check.due("ask(" + wrong + ", 0)", x.ask(wrong, 0), -1);
        }
        check.due("ask(-1, 0)", x.ask(-1, 0), -1);
        check.due("ask(2, 0)", x.ask(2, 0), -1);
        x.later(1);
        x.stolen(0, true);
        x.stolen(0, false);
        askIs(x, 1, -1, -1);
        askIs(x, 0, 0, ALL - 15);
        x.fly(0, 0);
        askIs(x, 1, -1, -1);
        askIs(x, 0, -1, -1);
        askIs(new KiteRoofs(), 0, -1, -1);
        x = Check.with("roof r at 0 weight 0;kite a of r at 5 size 1 cord 4 height 3 tied;");
        askIs(x, 0, 0, ALL - 15);
        x.hour();
        askIs(x, 0, -1, -1);
    }
}
