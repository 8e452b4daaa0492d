/** Promises 1 to 5: a new object, feed, end, town, fault; the TOWN's text, its TOKENS and FAULTS. */
public final class TextTest {
    private static final Check CHECK = new Check();
    private static final String ROOF = "roof r at 1 weight 1;";
    private static final String KITE = ROOF + "kite k of r at 1 size 1 cord 1;";

    public static void main(String[] args) {
        newObject();
        tape();
        bytesBehindTheEnd();
        townStartsAnew();
        oldTownsAreGone();
        faultLeavesAll();
        tokens();
        lines();
        names();
        numbers();
        counts();
        formulas();
        depths();
        everyWordIsNoName();
        CHECK.finish("TextTest");
    }

    private static void newObject() {
        KiteRoofs x = new KiteRoofs();
        for (int what = 0; what <= 14; what++) {
            CHECK.due("new about(" + what + ")", x.about(what), 0);
        }
        CHECK.due("new kite", x.kite(0, 0), -3);
        CHECK.due("new roof", x.roof(0, 0), -1);
        CHECK.due("new boy", x.boy(0, 0), -1);
        CHECK.due("new fault(0)", x.fault(0), 0);
        CHECK.due("new fault(1)", x.fault(1), -1);
        CHECK.due("new fault(2)", x.fault(2), -1);
        CHECK.due("new fault(-1)", x.fault(-1), -1);
        CHECK.due("new undo", x.undo(), false);
        CHECK.due("new redo", x.redo(), false);
        CHECK.due("new back", x.back(0), -1);
        CHECK.due("an empty text", x.town(), 0);
        CHECK.due("NONE", KiteRoofs.NONE, -1);
    }

    private static void tape() {
        KiteRoofs x = new KiteRoofs();
        for (int i = 1; i <= 80; i++) {
            CHECK.due("feed " + i, x.feed(0x20202020, 0x20202020, 0x20202020, 0x20202020, 0x20202020), 20 * i);
        }
        CHECK.due("feed beyond 1600", x.feed(0, 0, 0, 0, 0), -1);
        CHECK.due("about(12)", x.about(12), 1600);
        CHECK.due("end(1601)", x.end(1601), -1);
        CHECK.due("end(-1)", x.end(-1), -1);
        CHECK.due("end(1600)", x.end(1600), 1600);
        CHECK.due("end(1581)", x.end(1581), 1581);
        CHECK.due("feed at 1581", x.feed(0, 0, 0, 0, 0), -1);
        CHECK.due("about(12) is as it was", x.about(12), 1581);
        CHECK.due("end(1580)", x.end(1580), 1580);
        CHECK.due("feed at 1580", x.feed(0x20202020, 0x20202020, 0x20202020, 0x20202020, 0x2020203B), 1600);
        CHECK.due("town()", x.town(), -1);
        CHECK.due("fault(0)", x.fault(0), 2);
        CHECK.due("fault(1)", x.fault(1), 1599);
        CHECK.due("the tape is empty", x.about(12), 0);
        CHECK.due("end(0)", x.end(0), 0);
        CHECK.due("end(1)", x.end(1), -1);
        CHECK.due("bytes, the highest first", Check.put(x, "draw 7;"), 7);
        CHECK.due("town()", x.town(), 0);
        CHECK.due("the SEED", x.about(5), 7);
        CHECK.due("fault(0)", x.fault(0), 0);
        CHECK.due("fault(1)", x.fault(1), -1);
    }

    /** What was fed and then cut off must not be read. */
    private static void bytesBehindTheEnd() {
        String[] texts = {"draw 57;", "roof ab at 1 weight 1;", "boy    b arms 1;", "wind 1+2;"};
        int[] ends = {6, 6, 5, 6};
        for (int i = 0; i < texts.length; i++) {
            KiteRoofs x = new KiteRoofs();
            Check.put(x, texts[i]);
            x.end(ends[i]);
            CHECK.due("town() of the first " + ends[i] + " of " + texts[i], x.town(), -1);
            CHECK.due("fault(0)", x.fault(0), 2);
            CHECK.due("fault(1)", x.fault(1), ends[i]);
        }
        KiteRoofs x = new KiteRoofs();
        Check.put(x, "draw 5;x");
        x.end(7);
        CHECK.due("town()", x.town(), 0);
        for (int i = 0; i < 80; i++) {
            x.feed(0x77777777, 0x77777777, 0x77777777, 0x77777777, 0x77777777);
        }
        CHECK.due("a word to the last byte", x.town(), -1);
        CHECK.due("its place", x.fault(1), 0);
        for (int i = 0; i < 80; i++) {
            x.feed(0x39393939, 0x39393939, 0x39393939, 0x39393939, 0x39393939);
        }
        CHECK.due("a number to the last byte", x.town(), -1);
        CHECK.due("no TOKEN", x.fault(0), 1);
    }

    private static void oldTownsAreGone() {
        KiteRoofs x = Check.with(KITE + "boy b arms 3;wind 3;lift 4;gust 50 of 9;draw 8;");
        Check.put(x, KITE + "boy b arms 3;wind 3;lift 4;gust 50 of 9;draw 8;");
        CHECK.due("told twice", x.town(), 1);
        for (int i = 0; i < 2; i++) {
            CHECK.due("an empty text", x.town(), 0);
            for (int what = 0; what <= 14; what++) {
                CHECK.due("empty about(" + what + ")", x.about(what), 0);
            }
            CHECK.due("usual wind", x.force(1, 0), 5);
            CHECK.due("usual gust", x.force(1, 1), 6);
        }
        Check.put(x, "roof r at 0 weight 1;kite a of r at 0 size 2 cord 99 height 1;boy c arms 20;holds c a;");
        CHECK.due("town()", x.town(), 1);
        CHECK.due("usual lift", x.kite(0, 5), 10);
        CHECK.due("no gusts", x.odds(0, 1, 1), 1);
    }

    private static void townStartsAnew() {
        KiteRoofs x = Check.with(ROOF + "kite k of r at 1 size 1 cord 99 height 3;boy b arms 9;draw 5;");
        x.hour();
        x.fly(0, 2);
        x.undo();
        x.image(0);
        x.image(2);
        x.lend();
        x.stolen(0, true);
        x.later(7);
        CHECK.due("one lies there", x.about(14), 1);
        Check.put(x, KITE + "boy b arms 3;draw 8;");
        CHECK.due("town()", x.town(), 1);
        int[] due = {1, 1, 1, 0, 0, 8, 0, 0, 0, 0, 0, 7, 0, 0, 0};
        for (int what = 0; what < due.length; what++) {
            CHECK.due("anew about(" + what + ")", x.about(what), due[what]);
        }
        CHECK.due("box 0", x.back(0), -1);
        CHECK.due("box 2", x.back(2), -1);
        CHECK.due("height", x.kite(0, 0), 0);
        CHECK.due("age", x.kite(0, 3), 0);
        CHECK.due("down", x.roof(0, 3), 0);
        CHECK.due("hours", x.boy(0, 1), 4);
        CHECK.due("undo", x.undo(), false);
        CHECK.due("redo", x.redo(), false);
        CHECK.due("lies", x.lies(0), -1);
        CHECK.due("untell", x.untell(0), false);
    }

    private static void faultLeavesAll() {
        KiteRoofs x = Check.with(ROOF + "kite k of r at 1 size 1 cord 99 height 3;boy b arms 9;wind 3;draw 5;");
        x.hour();
        x.fly(0, 2);
        x.undo();
        x.image(1);
        x.lend();
        x.stolen(0, true);
        int[] was = new int[15];
        for (int what = 0; what < was.length; what++) {
            was[what] = x.about(what);
        }
        Check.put(x, "roof q at 1 weight 1;roof r at 2 weight 2;wind 9;draw 77;boy");
        CHECK.due("town()", x.town(), -1);
        CHECK.due("fault(1)", x.fault(1), 60);
        for (int what = 0; what < was.length; what++) {
            CHECK.due("as before about(" + what + ")", x.about(what), was[what]);
        }
        CHECK.due("force", x.force(5, 0), 3);
        CHECK.due("redo", x.redo(), true);
        CHECK.due("back", x.back(1), 0);
        CHECK.due("weight", x.roof(0, 0), 1);
        CHECK.due("lies", x.lies(0), 0);
        Check.put(x, "");
        CHECK.due("a sound town", x.town(), 0);
        CHECK.due("fault(0)", x.fault(0), 0);
        CHECK.due("fault(1)", x.fault(1), -1);
    }

    private static void tokens() {
        CHECK.fault("", 0, -1);
        CHECK.fault("  \n \n", 0, -1);
        CHECK.fault("roof\nr\nat\n1\nweight\n1\n;\n", 0, -1);
        CHECK.fault("roof r at1 weight1;", 0, -1);
        CHECK.fault("roof abcdefgh at 1 weight 1;", 0, -1);
        CHECK.fault("roof abcdefghi at 1 weight 1;", 1, 5);
        CHECK.fault("roof r at 0019 weight 0999;", 0, -1);
        CHECK.fault("roof r at 00001 weight 1;", 1, 10);
        CHECK.fault("roof r at 1weight 1;", 1, 10);
        CHECK.fault("roof r at 33weight 1;", 1, 10);
        CHECK.fault("roof r at 1\tweight 1;", 1, 11);
        CHECK.fault("Roof", 1, 0);
        CHECK.fault("roof r at 1 weight 1;\u00e9", 1, 21);
        CHECK.fault("roof r at 20 $", 4, 10);
        CHECK.fault("wind 1+$", 1, 7);
        CHECK.fault("wind 1&2;", 1, 6);
        CHECK.fault("wind 12345;", 1, 5);
        CHECK.fault("\0", 1, 0);
    }

    private static void lines() {
        CHECK.fault("kite", 2, 4);
        CHECK.fault("hall", 2, 0);
        CHECK.fault("5", 2, 0);
        CHECK.fault(";", 2, 0);
        CHECK.fault("at", 2, 0);
        CHECK.fault("roof r", 2, 6);
        CHECK.fault("roof r  ", 2, 8);
        CHECK.fault("roof r weight", 2, 7);
        CHECK.fault("roof r at x", 2, 10);
        CHECK.fault("roof r at 1 weight 1", 2, 20);
        CHECK.fault("roof r at 1 weight 1 roof", 2, 21);
        CHECK.fault("roof 5", 2, 5);
        CHECK.fault(ROOF + "kite k at", 2, 28);
        CHECK.fault(ROOF + "kite k of r size", 2, 33);
        CHECK.fault(ROOF + "kite k of r at 1 cord", 2, 38);
        CHECK.fault(ROOF + "kite k of r at 1 size 1 height", 2, 45);
        CHECK.fault(ROOF + "kite k of r at 1 size 1 cord 1 height 2 height", 2, 61);
        CHECK.fault(ROOF + "kite k of r at 1 size 1 cord 1 height 2 tied;", 0, -1);
        CHECK.fault(ROOF + "kite k of r at 1 size 1 cord 1 tied tied", 2, 57);
        CHECK.fault("boy b hours", 2, 6);
        CHECK.fault("boy b arms 3 hours;", 2, 18);
        CHECK.fault("boy b arms 3 hours 24;", 0, -1);
        CHECK.fault("gust 50;", 2, 7);
        CHECK.fault("gust of", 2, 5);
        CHECK.fault("draw x", 2, 5);
        CHECK.fault("draw;", 2, 4);
        CHECK.fault("holds;", 2, 5);
        CHECK.fault("boy b arms 1;holds b;", 2, 20);
    }

    private static void names() {
        CHECK.fault(ROOF + "roof r", 3, 26);
        CHECK.fault(KITE + "kite k", 3, ROOF.length() + 36);
        CHECK.fault("boy b arms 1;boy b", 3, 17);
        CHECK.fault("boy r arms 1;" + ROOF + "kite r of r at 1 size 1 cord 1;holds r r;", 0, -1);
        CHECK.fault(ROOF + "kite k of k", 5, 31);
        CHECK.fault(KITE + "boy b arms 1;holds k b", 5, KITE.length() + 19);
        CHECK.fault(KITE + "boy b arms 1;holds b r", 5, KITE.length() + 21);
        CHECK.fault(KITE + "boy b arms 1;boy c arms 1;holds b k;holds c k;", 3, KITE.length() + 44);
        CHECK.fault(ROOF + "kite k of r at 1 size 1 cord 1 tied;boy b arms 1;holds b k;", 3, 78);
        CHECK.fault("holds b k;boy b arms 1;", 5, 6);
    }

    private static void numbers() {
        CHECK.fault("roof r at 19 weight 999;", 0, -1);
        CHECK.fault("roof r at 20", 4, 10);
        CHECK.fault("roof r at 0 weight 1000;", 4, 19);
        String kite = ROOF + "kite k of r at ";
        CHECK.fault(kite + "19 size 9 cord 999 height 9;", 0, -1);
        CHECK.fault(kite + "0 size 1 cord 1 height 0;", 0, -1);
        CHECK.fault(kite + "20", 4, 36);
        CHECK.fault(kite + "1 size 0", 4, 43);
        CHECK.fault(kite + "1 size 10", 4, 43);
        CHECK.fault(kite + "1 size 1 cord 0", 4, 50);
        CHECK.fault(kite + "1 size 1 cord 1000", 4, 50);
        CHECK.fault(kite + "1 size 1 cord 1 height 10", 4, 59);
        CHECK.fault("boy b arms 999;", 0, -1);
        CHECK.fault("boy b arms 0", 4, 11);
        CHECK.fault("boy b arms 1000", 4, 11);
        CHECK.fault("boy b arms 1 hours 0", 4, 19);
        CHECK.fault("boy b arms 1 hours 1;", 0, -1);
        CHECK.fault("boy b arms 1 hours 25", 4, 19);
        CHECK.fault("gust 100 of 20;", 0, -1);
        CHECK.fault("gust 101", 4, 5);
        CHECK.fault("gust 0 of 0", 4, 10);
        CHECK.fault("gust 0 of 21", 4, 10);
        CHECK.fault("draw 999;", 0, -1);
        CHECK.fault("draw 1000", 4, 5);
        CHECK.fault("wind 9999;", 0, -1);
    }

    private static void counts() {
        StringBuilder roofs = new StringBuilder();
        for (char c = 'a'; c < 'e'; c++) {
            roofs.append("roof ").append(c).append(" at 1 weight 1;");
        }
        CHECK.fault(roofs.toString(), 0, -1);
        CHECK.fault(roofs + "roof a", 2, roofs.length());
        StringBuilder kites = new StringBuilder(roofs);
        for (char c = 'a'; c < 'i'; c++) {
            kites.append("kite ").append(c).append(" of a at 1 size 1 cord 1;");
        }
        CHECK.fault(kites.toString(), 0, -1);
        CHECK.fault(kites + "kite 5", 2, kites.length());
        StringBuilder boys = new StringBuilder();
        for (char c = 'a'; c < 'e'; c++) {
            boys.append("boy ").append(c).append(" arms 1;");
        }
        CHECK.fault(boys.toString(), 0, -1);
        CHECK.fault(boys + "boy e", 2, boys.length());
        CHECK.fault("wind 1;lift 1;gust 1 of 1;draw 1;", 0, -1);
        CHECK.fault("wind 1;lift 1;wind 1;", 2, 14);
        CHECK.fault("lift 1;wind 1;lift 1;", 2, 14);
        CHECK.fault("gust 0 of 1;gust 0 of 1;", 2, 12);
        CHECK.fault("draw 0;draw 0;", 2, 7);
    }

    private static String many(String text, int times) {
        return text.repeat(times);
    }

    private static void formulas() {
        CHECK.fault("wind height+hour-day*size/force%near;", 0, -1);
        CHECK.fault("lift age<1 or near>2 and not size=3;", 0, -1);
        CHECK.fault("lift ( ( 1 ) ) ;", 0, -1);
        CHECK.fault("lift (1;", 2, 7);
        CHECK.fault("lift 1);", 2, 6);
        CHECK.fault("lift ();", 2, 6);
        CHECK.fault("lift -1;", 2, 5);
        CHECK.fault("lift 1+;", 2, 7);
        CHECK.fault("lift 1 2;", 2, 7);
        CHECK.fault("lift 1<;", 2, 7);
        CHECK.fault("lift 1*;", 2, 7);
        CHECK.fault("lift 1 and;", 2, 10);
        CHECK.fault("lift 1 or;", 2, 9);
        CHECK.fault("lift (1+);", 2, 8);
        CHECK.fault("lift (;", 2, 6);
        CHECK.fault("lift (1<);", 2, 8);
        CHECK.fault("lift;", 2, 4);
        CHECK.fault("lift not;", 2, 8);
        CHECK.fault("lift 1+not 1;", 2, 7);
        CHECK.fault("lift 1<2=1;", 2, 8);
        CHECK.fault("lift 1 and or 1;", 2, 11);
        CHECK.fault("lift lift;", 2, 5);
        CHECK.fault("lift hours;", 2, 5);
        CHECK.fault("lift x;", 2, 5);
        CHECK.fault("lift 1", 2, 6);
        CHECK.fault("wind " + many("1+", 29) + "1;", 0, -1);
        CHECK.fault("wind " + many("1+", 30) + "1;", 2, 65);
        CHECK.fault("wind " + many("1+", 30) + "$", 1, 65);
        CHECK.fault("wind " + many("(1)+", 15) + "1;", 2, 65);
        CHECK.fault("wind " + many("1+", 29) + "(1);", 2, 64);
        CHECK.fault("wind " + many("1+", 28) + "(1);", 0, -1);
        CHECK.due("units", Check.with("wind " + many("1+", 29) + "1;lift " + many("1+", 29) + "1;").about(13), 60);
        CHECK.due("units", Check.with("wind (1+(hour));lift not 3=4;").about(13), 6);
    }

    private static void depths() {
        CHECK.fault("wind " + many("(", 7) + "1" + many(")", 7) + ";", 0, -1);
        CHECK.fault("wind " + many("(", 8) + "1", 2, 12);
        CHECK.fault("wind " + many("not ", 7) + "1;", 0, -1);
        CHECK.fault("wind " + many("not ", 8) + "1;", 2, 33);
        CHECK.fault("wind " + many("not ", 7) + "(1);", 2, 33);
        CHECK.fault("wind " + many("not ", 6) + "(1);", 0, -1);
        CHECK.fault("wind " + many("(not ", 3) + "(1))));", 0, -1);
        CHECK.fault("wind " + many("(not ", 3) + "((1)))));", 2, 21);
        CHECK.fault("wind " + many("(", 7) + "not 1" + many(")", 7) + ";", 2, 12);
        CHECK.fault("wind " + many("(", 6) + "not (1)" + many(")", 6) + ";", 2, 15);
        CHECK.fault("wind " + many("(", 6) + "not 1" + many(")", 6) + ";", 0, -1);
        CHECK.fault("wind " + many(many("not ", 7) + "1 or ", 29) + "1;", 0, -1);
        CHECK.due("seven nots", Check.with("wind " + many("not ", 7) + "0;").force(1, 0), 1);
    }

    private static void everyWordIsNoName() {
        String[] words = ("roof at weight kite of size cord height tied boy arms hours holds wind lift gust draw or and "
            + "not hour day force near age").split(" ");
        for (String word : words) {
            CHECK.fault("roof " + word + " at 1 weight 1;", 2, 5);
            CHECK.fault("boy " + word + "s arms 1;", word.equals("hour") ? 2 : 0, word.equals("hour") ? 4 : -1);
        }
    }
}
