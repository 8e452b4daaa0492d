/** The edges of promises 22 to 26 and 29: best, fewest, crew, guard, lend, lies. */
final class EdgesOfPlans {

    private final Check check;

    EdgesOfPlans(Check check) {
        this.check = check;
    }

    void all() {
        best();
        bestAnswers();
        fewest();
        fewestAnswers();
        crew();
        crewAnswers();
        guard();
        guardAnswers();
        lend();
        lendAnswers();
        lies();
    }

    /** KITES of the ROOF r, 2 YARDS apart, at height 1, that LIFT as much as their sizes with the wind 1. */
    private static String kites(String more, int... sizes) {
        StringBuilder text = new StringBuilder();
        for (int k = 0; k < sizes.length; k++) {
            text.append("kite ").append((char) ('a' + k)).append(" of r at ").append(2 * k).append(" size ").append(sizes[k])
                .append(" cord 99 height 1").append(more).append(";");
        }
        return text + "wind 1;";
    }

    private static KiteRoofs one(String kite, String more) {
        return Check.with("roof r at 0 weight 5;kite k of r at 0 size 1 cord " + kite + ";" + more);
    }

    private void bestIs(KiteRoofs x, int height, int pull) {
        check.due("best(0, 0)", x.best(0, 0), height);
        check.due("best(0, 1)", x.best(0, 1), pull);
    }

    private void best() {
        check.says(22, "BEST of a KITE: the height (1 .. 9) at which it would PULL most, if it were tied there (not LOST), all "
            + "else as now; of like ones the first.");
        bestIs(one("99 height 5 tied", "lift 20-height;"), 1, 19);
        bestIs(one("99 height 5 tied", "lift height;"), 9, 9);
        bestIs(one("99 height 5 tied", "lift 7;"), 1, 7);
        bestIs(one("99 height 5 tied", "lift 0;"), 1, 0);
        bestIs(one("99 height 5 tied", "lift (height=4 or height=6)*8;"), 4, 8);
        // Not what it lifts, but what it PULLS counts.
        bestIs(one("6 height 5 tied", "lift height;"), 6, 6);
        bestIs(one("6 height 5 tied", "lift height+6;"), 1, 0);
        bestIs(one("99", "lift height;"), 9, 9);
        bestIs(one("99 height 2", "lift height;boy b arms 1 hours 1;holds b k;"), 9, 9);
        // Others stay as they are: NEAR the other one at height 5 it lifts nothing.
        bestIs(one("99 height 1", "kite l of r at 0 size 1 cord 99 height 8;wind 0;lift height*(near=0);"), 6, 6);
        // Higher than 5 it CROSSES the other one, which halves; at 5 both PLACES are 5.
        bestIs(one("99 height 1", "kite l of r at 4 size 1 cord 99 height 1;wind 10;lift height*2;"), 5, 10);
        KiteRoofs x = one("99 height 9 tied", "kite l of r at 9 size 1 cord 99;lift 20-height;");
        check.due("of the last KITE: the height", x.best(1, 0), 1);
        check.due("of the last KITE: what it PULLS", x.best(1, 1), 19);
        x = one("99 height 2", "lift height;boy b arms 1 hours 1;holds b k;");
        x.best(0, 0);
        check.due("nothing is done: height", x.kite(0, 0), 2);
        check.due("nothing is done: the BOY", x.kite(0, 1), 0);
    }

    private void bestAnswers() {
        check.says(22, "BEST what 0: the height, 1: what it PULLS there; NONE if it is LOST, or one can't be.");
        KiteRoofs x = one("4 height 5 tied", "");
        check.due("not LOST", x.best(0, 1), 0);
        x.hour();
        check.due("LOST: the height", x.best(0, 0), -1);
        check.due("LOST: what it PULLS", x.best(0, 1), -1);
        x.mend(0);
        check.due("mended", x.best(0, 0), 1);
        x = one("99 height 5 tied", "kite l of r at 9 size 1 cord 4 height 5 tied;");
        x.hour();
        check.due("the last is LOST", x.best(1, 0), -1);
        check.due("the first is not", x.best(0, 0), 1);
        x = one("4 height 5 tied", "");
        check.due("behind the last KITE", x.best(1, 0), -1);
        for (int wrong : Check.FAR) {
            check.due("best(" + wrong + ", 0)", x.best(wrong, 0), -1);
            check.due("best(0, " + wrong + ")", x.best(0, wrong), -1);
        }
        check.due("best(-1, 0)", x.best(-1, 0), -1);
        check.due("best(0, -1)", x.best(0, -1), -1);
        check.due("best(0, 2)", x.best(0, 2), -1);
        check.due("in an empty TOWN", new KiteRoofs().best(0, 0), -1);
    }

    private void fewestIs(KiteRoofs x, int count, int set) {
        check.due("fewest(0, 0)", x.fewest(0, 0), count);
        check.due("fewest(0, 1)", x.fewest(0, 1), set);
    }

    private void fewest() {
        check.says(23, "FEWEST for a ROOF: so many of its KITES that FLY as few as can be, landing its others, by which it is "
            + "UP; of like ones the least set as bits.");
        fewestIs(Check.with("roof r at 0 weight 0;" + kites(" tied", 9)), 0, 0);
        fewestIs(Check.with("roof r at 0 weight 0;"), 0, 0);
        fewestIs(Check.with("roof r at 0 weight 1;" + kites(" tied", 1, 1)), 1, 1);
        fewestIs(Check.with("roof r at 0 weight 9;" + kites(" tied", 1, 9)), 1, 2);
        fewestIs(Check.with("roof r at 0 weight 10;" + kites(" tied", 1, 9)), 2, 3);
        // 6 by any two but a and c; 9 by b and c, b and d, c and d.
        fewestIs(Check.with("roof r at 0 weight 6;" + kites(" tied", 1, 5, 4, 5)), 2, 3);
        fewestIs(Check.with("roof r at 0 weight 9;" + kites(" tied", 1, 5, 4, 5)), 2, 6);
        fewestIs(Check.with("roof r at 0 weight 8;" + kites(" tied", 1, 1, 1, 1, 1, 1, 1, 1)), 8, 255);
        // One that does not FLY is in no set.
        KiteRoofs x = Check.with("roof r at 0 weight 9;" + kites(" tied", 9, 9));
        x.fly(0, 0);
        fewestIs(x, 1, 2);
        x.fly(1, 0);
        fewestIs(x, -1, -1);
        // Landing others helps: tom can hold one alone; it is UP by one and DOWN by both.
        x = Check.with("roof r at 0 weight 5;" + kites("", 5, 5) + "boy tom arms 9;holds tom a;holds tom b;");
        check.due("DOWN by both", x.up(), 0);
        fewestIs(x, 1, 1);
        // Another ROOF's KITE is not landed.
        x = Check.with("roof r at 0 weight 5;roof s at 0 weight 5;" + kites("", 5, 5).replace("kite b of r", "kite b of s")
            + "boy tom arms 9;holds tom a;holds tom b;");
        fewestIs(x, -1, -1);
        check.due("nothing is done", x.about(6), 3);
    }

    private void fewestAnswers() {
        check.says(23, "FEWEST what 0: how many, 1: which, as bits; NONE if no set is enough, or one can't be.");
        KiteRoofs x = Check.with("roof r at 0 weight 11;" + kites(" tied", 1, 9));
        fewestIs(x, -1, -1);
        fewestIs(Check.with("roof r at 0 weight 1;"), -1, -1);
        x = Check.with("roof r at 0 weight 0;");
        check.due("behind the last ROOF", x.fewest(1, 0), -1);
        for (int wrong : Check.FAR) {
            check.due("fewest(" + wrong + ", 0)", x.fewest(wrong, 0), -1);
            check.due("fewest(0, " + wrong + ")", x.fewest(0, wrong), -1);
        }
        check.due("fewest(-1, 0)", x.fewest(-1, 0), -1);
        check.due("fewest(0, -1)", x.fewest(0, -1), -1);
        check.due("fewest(0, 2)", x.fewest(0, 2), -1);
        check.due("without ROOFS", new KiteRoofs().fewest(0, 0), -1);
    }

    private void crewIs(KiteRoofs x, int count, int set) {
        check.due("crew(0)", x.crew(0), count);
        check.due("crew(1)", x.crew(1), set);
    }

    private static KiteRoofs crewOf(String boys, int... lifts) {
        return Check.with("roof r at 0 weight 5;" + kites("", lifts) + boys);
    }

    private void crew() {
        check.says(24, "CREW: the fewest BOYS (with hours left) among whom all that FLY and are not tied can be shared, so that "
            + "each is HELD; of like ones the least set as bits.");
        crewIs(crewOf("boy a arms 9;boy b arms 9;", 9), 1, 1);
        crewIs(crewOf("boy a arms 8;boy b arms 9;", 9), 1, 2);
        crewIs(crewOf("boy a arms 9;boy b arms 9;boy c arms 18;", 9, 9), 1, 4);
        crewIs(crewOf("boy a arms 9;boy b arms 9;boy c arms 17;", 9, 9), 2, 3);
        crewIs(crewOf("boy a arms 2;boy b arms 2;boy c arms 2;boy d arms 2;", 2, 2, 2, 2), 4, 15);
        crewIs(crewOf("boy a arms 8;boy b arms 5;boy c arms 1;boy d arms 4;", 3, 5, 4, 5), 3, 11);
        // 7, 5, 4, 4, 4: 12 by 7 and 5, 12 by the fours.
        crewIs(crewOf("boy a arms 12;boy b arms 12;", 7, 4, 4, 5, 4), 2, 3);
        crewIs(crewOf("boy a arms 12;boy b arms 11;", 7, 4, 4, 5, 4), -1, -1);
        KiteRoofs x = crewOf("boy a arms 9 hours 1;boy b arms 9;", 9);
        x.give(0, 0);
        x.hour();
        crewIs(x, 1, 2);
        x.undo();
        check.due("one hour left", x.boy(0, 1), 1);
        crewIs(x, 1, 1);
        x.redo();
        x.tie(0);
        crewIs(x, 0, 0);
        x.give(0, -1);
        crewIs(x, 1, 2);
        x.fly(0, 0);
        crewIs(x, 0, 0);
        x = crewOf("boy a arms 5;", 5, 9);
        x.tie(1);
        crewIs(x, 1, 1);
        // What was lent before changes nothing.
        x = Check.with("roof r at 0 weight 0;roof s at 0 weight 0;" + kites("", 5) + "boy a arms 5;");
        x.lend();
        crewIs(x, 1, 1);
        // What he holds now is shared anew.
        x = crewOf("boy a arms 5;boy b arms 6;holds a b;", 5, 6);
        crewIs(x, 2, 3);
        // A LIFT of 0 is to be HELD, too.
        crewIs(Check.with("roof r at 0 weight 5;lift 0;" + kites("", 5, 5) + "boy a arms 1;"), 1, 1);
        crewIs(Check.with("roof r at 0 weight 5;lift 0;" + kites("", 5, 5)), -1, -1);
    }

    private void crewAnswers() {
        check.says(24, "CREW what 0: how many, 1: which, as bits; NONE if all are not enough, or for another what.");
        crewIs(crewOf("boy a arms 8;boy b arms 8;", 9), -1, -1);
        crewIs(crewOf("", 9), -1, -1);
        crewIs(new KiteRoofs(), 0, 0);
        KiteRoofs x = crewOf("boy a arms 9 hours 1;", 9);
        x.give(0, 0);
        x.hour();
        crewIs(x, -1, -1);
        for (int wrong : Check.FAR) {
            check.due("crew(" + wrong + ")", x.crew(wrong), -1);
        }
        check.due("crew(-1)", x.crew(-1), -1);
        check.due("crew(2)", x.crew(2), -1);
    }

    private void guardIs(KiteRoofs x, int kite, int roofs) {
        check.due("guard(0)", x.guard(0), kite);
        check.due("guard(1)", x.guard(1), roofs);
    }

    private void guard() {
        check.says(25, "GUARD: the KITE that FLIES by whose landing most ROOFS that are UP are not any more; of like ones the "
            + "first.");
        guardIs(Check.with("roof r at 0 weight 5;" + kites(" tied", 1, 5)), 1, 1);
        guardIs(Check.with("roof r at 0 weight 6;" + kites(" tied", 1, 5)), 0, 1);
        guardIs(Check.with("roof r at 0 weight 7;" + kites(" tied", 1, 5)), 0, 0);
        KiteRoofs x = Check.with("roof r at 0 weight 1;" + kites(" tied", 1, 1));
        guardIs(x, 0, 0);
        x.fly(0, 0);
        guardIs(x, 1, 1);
        // The wind lifts each only by those that are NEAR: with the middle one both ROOFS fall.
        guardIs(Check.with("roof r at 0 weight 1;roof s at 0 weight 1;" + kites(" tied", 1, 1, 1)
            .replace("kite a of r", "kite a of s") + "lift near;"), 1, 2);
        // A ROOF that would be UP by a landing does not count against one that falls.
        x = Check.with("roof r at 0 weight 5;roof s at 0 weight 5;" + kites("", 5, 5, 5).replace("kite c of r", "kite c of s")
            .replace("wind 1;", "wind 1;boy t arms 9;boy u arms 9;holds t a;holds t b;holds u c;"));
        check.due("r is DOWN", x.up(), 2);
        guardIs(x, 2, 1);
    }

    private void guardAnswers() {
        check.says(25, "GUARD what 0: the KITE, 1: how many ROOFS; NONE if none FLIES, or for another what.");
        KiteRoofs x = Check.with("roof r at 0 weight 0;" + kites(" tied", 1, 1));
        guardIs(x, 0, 0);
        x.fly(0, 0);
        guardIs(x, 1, 0);
        x.fly(1, 0);
        guardIs(x, -1, -1);
        guardIs(new KiteRoofs(), -1, -1);
        x = Check.with("roof r at 0 weight 0;kite k of r at 0 size 1 cord 4 height 1 tied;");
        x.hour();
        check.due("LOST", x.about(7), 1);
        guardIs(x, -1, -1);
        x = Check.with("roof r at 0 weight 0;" + kites(" tied", 1, 1));
        for (int wrong : Check.FAR) {
            check.due("guard(" + wrong + ")", x.guard(wrong), -1);
        }
        check.due("guard(-1)", x.guard(-1), -1);
        check.due("guard(2)", x.guard(2), -1);
    }

    private void lendIs(KiteRoofs x, int up, int... roofs) {
        check.due("lend()", x.lend(), up);
        check.due("how many lie there", x.about(14), roofs.length);
        for (int i = 0; i < roofs.length; i++) {
            check.due("lies(" + i + ")", x.lies(i), roofs[i]);
        }
        check.due("none behind", x.lies(roofs.length), -1);
    }

    private static KiteRoofs lending(int[] weights, int... pulls) {
        StringBuilder text = new StringBuilder();
        for (int r = 0; r < weights.length; r++) {
            text.append("roof ").append((char) (r == 0 ? 'r' : 'a' + r)).append(" at 0 weight ").append(weights[r]).append(";");
        }
        return Check.with(text + kites(" tied", pulls));
    }

    private void lend() {
        check.says(26, "LEND: to which ROOF each KITE is to be given so that most ROOFS are UP by what all PULL now; of like ones "
            + "the first (KITE by KITE, ROOFS by number).");
        lendIs(lending(new int[] {3, 4}, 4, 3), 2, 1, 0);
        lendIs(lending(new int[] {3, 4}, 3, 4), 2, 0, 1);
        lendIs(lending(new int[] {3, 5}, 3, 4), 1, 0, 0);
        lendIs(lending(new int[] {9, 5}, 3, 4), 1, 1, 1);
        lendIs(lending(new int[] {8, 8}, 3, 4), 0, 0, 0);
        lendIs(lending(new int[] {2, 2}, 1, 1, 1, 1), 2, 0, 0, 1, 1);
        lendIs(lending(new int[] {0, 2}, 1, 1), 2, 1, 1);
        lendIs(lending(new int[] {0, 0}, 1, 1), 2, 0, 0);
        lendIs(lending(new int[] {2, 2, 2, 2}, 1, 1, 1, 1, 1, 1, 1, 1), 4, 0, 0, 1, 1, 2, 2, 3, 3);
        lendIs(lending(new int[] {9, 9, 9, 1}, 1, 1, 1, 1, 1, 1, 1, 1), 1, 0, 0, 0, 0, 0, 0, 0, 3);
        // What the first can't be given for is still to be pulled by others.
        lendIs(lending(new int[] {2, 4}, 3, 1, 2), 2, 1, 1, 0);
        // Three by 5 and 5 and 5 of 5 + 4 + 1 + 3 + 2.
        lendIs(lending(new int[] {5, 5, 5}, 5, 4, 1, 3, 2), 3, 0, 1, 1, 2, 2);
        // What is not HELD or landed PULLS nothing now.
        KiteRoofs x = lending(new int[] {9, 3}, 3, 3);
        lendIs(x, 1, 0, 1);
        x.give(1, -1);
        lendIs(x, 1, 1, 0);
        x.fly(0, 0);
        lendIs(x, 0, 0, 0);
        check.due("nothing is done", x.kite(0, 9), 0);
    }

    private void lendAnswers() {
        check.says(26, "LEND: how many ROOFS are UP; NONE without ROOFS.");
        check.due("without ROOFS", new KiteRoofs().lend(), -1);
        check.due("without ROOFS, with a BOY", Check.with("boy b arms 1;").lend(), -1);
        check.due("without KITES", Check.with("roof r at 0 weight 0;roof s at 0 weight 1;").lend(), 1);

        check.says(26, "The ROOF for each KITE lies there then (behind NONE: nothing).");
        lendIs(new KiteRoofs(), -1);
        lendIs(Check.with("roof r at 0 weight 0;"), 1);
        lendIs(lending(new int[] {1}, 1, 1, 1, 1, 1, 1, 1, 1), 1, 0, 0, 0, 0, 0, 0, 0, 0);
        KiteRoofs x = lending(new int[] {3, 4}, 4, 3);
        x.lend();
        x.fly(0, 0);
        x.hour();
        x.undo();
        check.due("it lies there till the next", x.lies(0), 1);
        x.lend();
        check.due("anew", x.lies(0), 0);
        Check.put(x, "boy b arms 1;");
        x.town();
        lendIs(x, -1);
    }

    private void lies() {
        check.says(29, "The i-th number of what lies there; NONE if there is none such.");
        KiteRoofs x = lending(new int[] {3, 4}, 4, 3);
        check.due("nothing yet", x.lies(0), -1);
        x.lend();
        check.due("the first", x.lies(0), 1);
        check.due("the last", x.lies(1), 0);
        check.due("behind it", x.lies(2), -1);
        for (int wrong : Check.FAR) {
            check.due("lies(" + wrong + ")", x.lies(wrong), -1);
        }
        check.due("lies(-1)", x.lies(-1), -1);
        x = lending(new int[] {1}, 1, 1, 1, 1, 1, 1, 1, 1);
        x.lend();
        check.due("the eighth", x.lies(7), 0);
        check.due("behind it", x.lies(8), -1);
        check.due("in an empty TOWN", new KiteRoofs().lies(0), -1);
    }
}
