/** The edges of promises 1 to 5 and of the TOWN's text, each beside its sentence of the document. */
final class EdgesOfText {
    private static final String ROOF = "roof r at 1 weight 1;";
    private static final String KITE = ROOF + "kite k of r at 1 size 1 cord 1;";
    private static final String BOY = "boy b arms 1;";
    private static final int BLANKS = 0x20202020;
    private static final int MOST = 1600;

    private final Check check;

    EdgesOfText(Check check) {
        this.check = check;
    }

    void all() {
        anEmptyTown();
        feed();
        end();
        town();
        allStays();
        fault();
        bytesOfATown();
        lines();
        optionalParts();
        repeatedParts();
        words();
        numbers();
        signs();
        blanks();
        asLongAsCanBe();
        letterBehindANumber();
        noNames();
        roofs();
        kites();
        boys();
        holds();
        numberedAsTold();
        onceEach();
        units();
        depths();
        firstFault();
        faultKinds();
    }

    private static KiteRoofs told(String text) {
        return Check.with(text);
    }

    private void anEmptyTown() {
        check.says(1, "An empty TOWN.");
        KiteRoofs x = new KiteRoofs();
        for (int what = 0; what <= 14; what++) {
            check.due("about(" + what + ")", x.about(what), 0);
        }
        check.due("up()", x.up(), 0);
        check.due("force(9, 0)", x.force(9, 0), 5);
        check.due("force(9, 1)", x.force(9, 1), 6);
        check.due("kite(0, 0)", x.kite(0, 0), -3);
        check.due("roof(0, 0)", x.roof(0, 0), -1);
        check.due("boy(0, 0)", x.boy(0, 0), -1);
        check.due("undo()", x.undo(), false);
        check.due("redo()", x.redo(), false);
        check.due("back(0)", x.back(0), -1);
        check.due("fault(0)", x.fault(0), 0);
        check.due("fault(1)", x.fault(1), -1);
        check.due("hour()", x.hour(), 0);

        check.says(1, "`NONE = -1`: There is none.");
        check.due("NONE", KiteRoofs.NONE, -1);
    }

    private static void feedBlanks(KiteRoofs x, int times) {
        for (int i = 0; i < times; i++) {
            x.feed(BLANKS, BLANKS, BLANKS, BLANKS, BLANKS);
        }
    }

    private void feed() {
        check.says(2, "Twenty bytes come behind those on the TAPE, of each number the highest first: how many there are");
        KiteRoofs x = new KiteRoofs();
        check.due("the first feed", x.feed(BLANKS, BLANKS, BLANKS, BLANKS, 0x64726177), 20);
        check.due("the second feed", x.feed(0x20313233, 0x3B202020, BLANKS, BLANKS, 0x20202058), 40);
        check.due("town()", x.town(), -1);
        check.due("the last byte is the lowest of the last number", x.fault(1), 39);
        x.feed(BLANKS, BLANKS, BLANKS, BLANKS, 0x64726177);
        x.feed(0x20313233, 0x3B202020, BLANKS, BLANKS, BLANKS);
        check.due("town()", x.town(), 0);
        check.due("draw 123", x.about(5), 123);
        x.feed(0xFFFFFFFF, BLANKS, BLANKS, BLANKS, BLANKS);
        check.due("bytes above 127", x.town(), -1);
        check.due("are no TOKENS", x.fault(0), 1);
        x.end(0);
        x.feed(BLANKS, BLANKS, BLANKS, BLANKS, BLANKS);
        x.end(3);
        check.due("behind three bytes", x.feed(0x64726177, 0x20383B20, BLANKS, BLANKS, BLANKS), 23);
        x.town();
        check.due("draw 8", x.about(5), 8);

        check.says(2, "NONE, and nothing comes, if there would be more than 1,600.");
        x = new KiteRoofs();
        feedBlanks(x, 79);
        check.due("1,600 bytes", x.feed(BLANKS, BLANKS, BLANKS, BLANKS, BLANKS), MOST);
        check.due("1,620 bytes", x.feed(0, 0, 0, 0, 0), -1);
        check.due("nothing comes", x.about(12), MOST);
        x.end(1581);
        check.due("1,601 bytes", x.feed(0, 0, 0, 0, 0), -1);
        check.due("nothing comes", x.about(12), 1581);
        x.end(1580);
        check.due("just 1,600 bytes", x.feed(BLANKS, BLANKS, BLANKS, BLANKS, BLANKS), MOST);
        check.due("all are blanks", x.town(), 0);
    }

    private void end() {
        check.says(3, "The TAPE has its first n bytes: n");
        KiteRoofs x = new KiteRoofs();
        Check.put(x, "draw 57;$");
        check.due("as many as there are", x.end(9), 9);
        check.due("one fewer", x.end(8), 8);
        check.due("about(12)", x.about(12), 8);
        x.town();
        check.due("the first bytes are as they were", x.about(5), 57);
        Check.put(x, "draw 57;");
        check.due("none", x.end(0), 0);
        check.due("an empty text", x.town(), 0);
        check.due("no draw", x.about(5), 0);

        String[] cut = {"draw 57;", "draw 5a;", "roof ab at 1 weight 1;", "boy    b arms 1;", "wind 1+2;"};
        for (String text : cut) {
            Check.put(x, text);
            x.end(6);
            check.due("the first 6 bytes of " + text, x.town(), -1);
            check.due("what is behind them is no part of a TOKEN", x.fault(0), 2);
            check.due("the end", x.fault(1), 6);
        }

        check.says(3, "NONE, doing nothing, if it has not so many, or n is below 0.");
        x = new KiteRoofs();
        check.due("an empty TAPE has not one", x.end(1), -1);
        check.due("but none", x.end(0), 0);
        Check.put(x, "draw 57;");
        check.due("one more than it has", x.end(9), -1);
        check.due("what was cut off is gone", x.end(20), -1);
        check.due("below 0", x.end(-1), -1);
        check.due("far below 0", x.end(Integer.MIN_VALUE), -1);
        check.due("far above", x.end(Integer.MAX_VALUE), -1);
        check.due("nothing was done", x.about(12), 8);
        check.due("town()", x.town(), 0);
        check.due("draw", x.about(5), 57);
    }

    /** A TOWN in which something of each kind has happened. */
    private static KiteRoofs busy() {
        KiteRoofs x = told("roof r at 1 weight 1;roof s at 2 weight 9;kite k of r at 1 size 1 cord 4 height 3 tied;"
            + "kite l of r at 9 size 1 cord 99 height 3;boy b arms 9 hours 7;holds b l;wind 6;draw 5;");
        for (int i = 0; i < 25; i++) {
            x.hour();
        }
        x.fly(1, 2);
        x.tie(1);
        x.undo();
        for (int box = 0; box < 3; box++) {
            x.image(box);
        }
        x.lend();
        x.stolen(0, true);
        x.later(7);
        return x;
    }

    /** The busy TOWN, told anew. */
    private static KiteRoofs anew() {
        KiteRoofs x = busy();
        Check.put(x, KITE + BOY + "draw 8;");
        x.town();
        return x;
    }

    private void town() {
        check.says(4, "The TAPE (empty then) is the TOWN");
        KiteRoofs x = busy();
        Check.put(x, KITE + BOY + "draw 8;");
        check.due("town()", x.town(), 1);
        check.due("the TAPE", x.about(12), 0);
        check.due("end(1)", x.end(1), -1);
        Check.put(x, "roof $");
        check.due("a FAULT", x.town(), -1);
        check.due("the TAPE is empty then, too", x.about(12), 0);

        check.says(4, "all as told");
        x = anew();
        int[] kite = {0, -1, 0, 0, 1, 0, 0, 0, 1, 0};
        for (int what = 0; what < kite.length; what++) {
            check.due("kite(0, " + what + ")", x.kite(0, what), kite[what]);
        }
        int[] roof = {1, 0, 0, 0, 1, 1};
        for (int what = 0; what < roof.length; what++) {
            check.due("roof(0, " + what + ")", x.roof(0, what), roof[what]);
        }
        check.due("ROOFS", x.about(1), 1);
        check.due("arms", x.boy(0, 0), 1);
        check.due("hours", x.boy(0, 1), 4);
        check.due("SEED", x.about(5), 8);
        check.due("LOST", x.about(7), 0);
        check.due("wind is not told", x.force(1, 0), 5);

        String full = KITE + BOY + "holds b k;wind 3;lift 4;gust 5 of 6;draw 7;";
        x = new KiteRoofs();
        for (int i = 0; i < 3; i++) {
            Check.put(x, full);
            check.due("the same text once more", x.town(), 1);
            check.due("units", x.about(13), 2);
        }
        for (int i = 0; i < 3; i++) {
            check.due("an empty text", x.town(), 0);
            for (int what = 0; what <= 14; what++) {
                check.due("of an empty TOWN about(" + what + ")", x.about(what), 0);
            }
            check.due("wind is not told any more", x.force(1, 0), 5);
            check.due("gust is not told any more", x.force(1, 1), 6);
        }
        Check.put(x, "roof a at 0 weight 11;kite a of a at 0 size 2 cord 99 height 1 tied;");
        x.town();
        check.due("lift is not told any more", x.kite(0, 5), 10);
        check.due("there are no gusts any more", x.odds(0, 1, 0), 0);
        oldTownsAreGone();

        check.says(4, "hour 0 of day 0");
        x = anew();
        check.due("hour", x.about(3), 0);
        check.due("day", x.about(4), 0);

        check.says(4, "no ACTS are kept");
        check.due("undone", x.about(8), 0);
        check.due("redone", x.about(9), 0);
        check.due("undo()", x.undo(), false);
        check.due("redo()", x.redo(), false);

        check.says(4, "nothing is STOLEN");
        check.due("STOLEN", x.about(10), 0);
        check.due("untell(0)", x.untell(0), false);
        x.fly(0, 3);
        check.due("all SPOTS", x.spots(7), 270);

        check.says(4, "nothing lies there");
        check.due("how many lie there", x.about(14), 0);
        check.due("lies(0)", x.lies(0), -1);

        check.says(4, "BOXES are empty then");
        for (int box = 0; box < 3; box++) {
            check.due("back(" + box + ")", x.back(box), -1);
        }

        check.says(4, "the TIME stays");
        check.due("TIME", x.about(11), 7);
        check.due("later(0)", x.later(0), 7);
    }

    /** Each new text is shorter than two that were told before it. */
    private void oldTownsAreGone() {
        String kite = "roof r at 0 weight 1;kite k of r at 0 size 1 cord 9";
        KiteRoofs x = new KiteRoofs();
        String[] old = {kite + " height 9 tied;wind 1+2;lift not 3;", kite + " height 8;boy b arms 1;holds b k;wind not 7;"};
        for (String text : old) {
            Check.put(x, text);
            x.town();
        }
        Check.put(x, kite + ";wind not 0;lift 7;");
        x.town();
        check.due("height is not told any more", x.kite(0, 0), 0);
        check.due("nor who has it", x.kite(0, 1), -1);
        check.due("wind", x.force(1, 0), 1);
        Check.put(x, kite + ";wind 6;");
        x.town();
        check.due("height is not told any more", x.kite(0, 0), 0);
        check.due("nor who has it", x.kite(0, 1), -1);
        check.due("wind", x.force(1, 0), 6);
        x.fly(0, 1);
        check.due("lift is not told any more", x.kite(0, 5), 6);
        Check.put(x, kite + " height 1;lift 7;");
        x.town();
        check.due("lift", x.kite(0, 5), 7);
    }

    private void allStays() {
        check.says(4, "how many KITES; NONE: a FAULT (all stays).");
        check.due("no KITES", new KiteRoofs().town(), 0);
        KiteRoofs x = new KiteRoofs();
        StringBuilder eight = new StringBuilder(ROOF);
        for (char c = 'a'; c < 'i'; c++) {
            eight.append("kite ").append(c).append(" of r at 1 size 1 cord 1;");
        }
        Check.put(x, eight.toString());
        check.due("eight KITES", x.town(), 8);
        x = busy();
        KiteRoofs same = busy();
        Check.put(x, "roof q at 3 weight 3;boy z arms 3;wind 9;lift 9;gust 9 of 9;draw 77;boy");
        check.due("a FAULT at the very end", x.town(), -1);
        for (int what = 0; what <= 14; what++) {
            check.due("about(" + what + ")", x.about(what), same.about(what));
        }
        for (int what = 0; what <= 9; what++) {
            check.due("kite(1, " + what + ")", x.kite(1, what), same.kite(1, what));
            check.due("roof(1, " + what + ")", x.roof(1, what), same.roof(1, what));
            check.due("boy(0, " + what + ")", x.boy(0, what), same.boy(0, what));
        }
        check.due("force", x.force(5, 1), 7);
        check.due("what lies there", x.lies(0), same.lies(0));
        check.due("redo()", x.redo(), true);
        check.due("undo()", x.undo(), true);
        check.due("untell(0)", x.untell(0), true);
        for (int box = 0; box < 3; box++) {
            check.due("back(" + box + ")", x.back(box), 1);
        }
    }

    private void fault() {
        check.says(5, "Of the latest town() what 0: its FAULT (0), 1: its place (NONE).");
        KiteRoofs x = new KiteRoofs();
        check.due("without a town() what 0", x.fault(0), 0);
        check.due("without a town() what 1", x.fault(1), -1);
        Check.put(x, "roof r at 20");
        x.town();
        check.due("its FAULT", x.fault(0), 4);
        check.due("its place", x.fault(1), 10);
        Check.put(x, "$");
        check.due("feed alone changes nothing", x.fault(0), 4);
        x.town();
        check.due("the latest FAULT", x.fault(0), 1);
        check.due("the latest place", x.fault(1), 0);
        x.town();
        check.due("no FAULT", x.fault(0), 0);
        check.due("no place", x.fault(1), -1);

        check.says(5, "NONE for another what.");
        Check.put(x, "roof r at 20");
        x.town();
        check.due("fault(-1)", x.fault(-1), -1);
        check.due("fault(2)", x.fault(2), -1);
        for (int wrong : Check.FAR) {
            check.due("fault(" + wrong + ")", x.fault(wrong), -1);
        }
    }

    private void bytesOfATown() {
        check.says(4, "A TOWN is a text of at most 1,600 bytes (empty at first)");
        String blanks = " ".repeat(MOST - 7);
        check.sound(blanks + "draw 7;");
        check.due("the last byte is read", told(blanks + "draw 7;").about(5), 7);
        check.faultAt(" ".repeat(MOST - 1), ";", 2);
        check.faultAt(" ".repeat(MOST - 1), "$", 1);
        check.fault(" ".repeat(MOST - 4) + "draw", 2, MOST);

        check.says(4, "town = {line}.");
        check.sound("");
        check.sound(" ");
        check.sound("draw 7;");
        check.sound("draw 7;wind 7;");
        check.faultAt("draw 7;", ";", 2);
    }

    /** A line, its TOKENS parted by blanks: none may be missing, and none may be another one. */
    private void whole(String ahead, String line) {
        check.sound(ahead + line);
        String before = ahead;
        for (String token : line.split(" ")) {
            check.fault(before.stripTrailing() + " ", before.equals(ahead) ? 0 : 2,
                before.equals(ahead) ? -1 : before.stripTrailing().length() + 1);
            check.faultAt(before, token.equals("at") ? "of" : "at", 2);
            before += token + " ";
        }
    }

    private void lines() {
        check.says(4, "line = roof NAME at N weight N ;");
        whole("", "roof s at 1 weight 1 ;");

        check.says(4, "kite NAME of NAME at N size N cord N");
        whole(ROOF, "kite k of r at 1 size 1 cord 1 ;");
        whole(ROOF, "kite k of r at 1 size 1 cord 1 height 1 tied ;");

        check.says(4, "boy NAME arms N [hours N] ;");
        whole("", "boy b arms 1 ;");
        whole("", "boy b arms 1 hours 1 ;");

        check.says(4, "holds NAME NAME ; | wind e ; | lift e ; | gust N of N ; | draw N ;.");
        whole(KITE + BOY, "holds b k ;");
        whole("", "wind 1 + ( 2 or 3 ) ;");
        whole("", "lift 1 < 2 and not 3 ;");
        whole("", "gust 1 of 1 ;");
        whole("", "draw 1 ;");
    }

    private void optionalParts() {
        check.says(4, "kite NAME of NAME at N size N cord N [height N] [tied] ;");
        String kite = ROOF + "kite k of r at 1 size 1 cord 1";
        check.sound(kite + ";");
        check.sound(kite + " height 2;");
        check.sound(kite + " tied;");
        check.sound(kite + " height 2 tied;");
        check.faultAt(kite + " tied ", "height 2;", 2);
        check.faultAt(kite + " height 2 ", "height 2;", 2);
        check.faultAt(kite + " tied ", "tied;", 2);
        check.faultAt(kite + " height ", "tied;", 2);
        check.faultAt(kite + " height ", ";", 2);

        check.says(4, "boy NAME arms N [hours N] ;");
        check.sound("boy b arms 1;");
        check.sound("boy b arms 1 hours 1;");
        check.faultAt("boy b arms 1 hours 1 ", "hours 1;", 2);
        check.faultAt("boy b arms 1 hours", ";", 2);
        check.faultAt("boy b ", "hours 1;", 2);
    }

    private void repeatedParts() {
        check.says(4, "e = both {or both}.");
        check.sound("wind 1 or 1;");
        check.sound("wind 1 or 1 or 1;");
        check.faultAt("wind 1 or", ";", 2);
        check.faultAt("wind ", "or 1;", 2);

        check.says(4, "both = one {and one}.");
        check.sound("wind 1 and 1;");
        check.sound("wind 1 and 1 and 1 or 1 and 1;");
        check.faultAt("wind 1 and", ";", 2);
        check.faultAt("wind 1 or ", "and 1;", 2);

        check.says(4, "one = not one | sum [(< | > | =) sum].");
        check.sound("wind not 1;");
        check.sound("wind not not 1<1;");
        check.sound("wind 1=1;");
        check.faultAt("wind 1<1", "<1;", 2);
        check.faultAt("wind 1>1", "=1;", 2);
        check.faultAt("wind 1<", "not 1;", 2);
        check.faultAt("wind 1<", "=1;", 2);
        check.faultAt("wind 1 ", "not 1;", 2);
        check.faultAt("wind not", ";", 2);

        check.says(4, "sum = term {(+ | -) term}.");
        check.sound("wind 1+1-1;");
        check.faultAt("wind ", "-1;", 2);
        check.faultAt("wind 1+", "+1;", 2);
        check.faultAt("wind 1-", ";", 2);
        check.faultAt("wind 1+", "not 1;", 2);

        check.says(4, "term = unit {(* | / | %) unit}.");
        check.sound("wind 1*1/1%1;");
        check.faultAt("wind 1*", "-1;", 2);
        check.faultAt("wind 1%", ";", 2);
        check.faultAt("wind 1 ", "1;", 2);

        check.says(4, "unit = N | height | hour | day | size | force | near | age | ( e ).");
        check.sound("lift height+hour+day+size+force+near+age+0+(1 or 1);");
        check.sound("wind height+hour+day+size+force+near+age+0+(1 or 1);");
        check.faultAt("wind ", "hours;", 2);
        check.faultAt("wind ", "wind;", 2);
        check.faultAt("wind (", ");", 2);
        check.faultAt("wind (1", ";", 2);
        check.faultAt("wind 1", ");", 2);
        check.faultAt("wind (1)", ");", 2);
    }

    private void words() {
        check.says(4, "words (a .. z, 8 at most)");
        check.sound("roof abcdefgh at 1 weight 1;");
        check.sound("roof z at 1 weight 1;roof zzzzzzzz at 1 weight 1;");
        check.faultAt("roof ", "abcdefghi at 1 weight 1;", 1);
        check.faultAt("roof ", "aaaaaaaaaaaaaaaaa at 1 weight 1;", 1);
        check.faultAt("roof ", "A at 1 weight 1;", 1);
        check.faultAt("roof ", "Z at 1 weight 1;", 1);
        check.faultAt("roof ", "` at 1 weight 1;", 1);
        check.faultAt("roof ", "{ at 1 weight 1;", 1);
        check.faultAt("roof a", "_b at 1 weight 1;", 1);
        // Names of eight letters that differ only in the first, or only in the last one.
        check.sound("roof abcdefgh at 1 weight 1;roof bbcdefgh at 1 weight 1;roof abcdefgi at 1 weight 1;");
        check.faultAt("roof abcdefgh at 1 weight 1;roof ", "abcdefgh at 1 weight 1;", 3);
    }

    private void numbers() {
        check.says(4, "N (1 to 4 digits)");
        check.sound("draw 0;");
        check.sound("draw 0000;");
        check.sound("draw 0999;");
        check.sound("wind 9999;");
        check.faultAt("draw ", "00000;", 1);
        check.faultAt("wind ", "10000;", 1);
        check.faultAt("wind ", "99999999999999999999;", 1);
        check.faultAt("draw ", "/;", 2);
        check.faultAt("draw ", ":;", 1);
        check.due("leading zeros", told("draw 0012;").about(5), 12);
    }

    private void signs() {
        check.says(4, "signs ; ( ) < > = + - * / %");
        for (int c = 0; c < 256; c++) {
            String text = String.valueOf((char) c);
            boolean blank = c == 32 || c == 10;
            boolean token = c >= 'a' && c <= 'z' || c >= '0' && c <= '9' || ";()<>=+-*/%".indexOf(c) >= 0;
            check.fault(text, blank ? 0 : token ? 2 : 1, blank ? -1 : 0);
        }
    }

    private void blanks() {
        check.says(4, "blanks (32, 10) part them or not");
        check.sound("\n\nroof\nr at\n \n1 weight 1 ;\n");
        check.sound("roof r at1 weight1;");
        check.sound("wind(1)or(1)and not(1);");
        check.sound("wind 1 + 2 * ( 3 - 4 ) ;");
        check.sound("draw 7;wind 7;lift 7;");
        char[] others = {0, 9, 11, 12, 13, 31, 33, 160};
        for (char c : others) {
            check.faultAt("draw", c + "7;", 1);
            check.faultAt("draw ", c + "7;", 1);
            check.faultAt("draw 7;", String.valueOf(c), 1);
        }
    }

    private void asLongAsCanBe() {
        check.says(4, "each is as long as can be");
        check.faultAt("", "roofr at 1 weight 1;", 2);
        check.faultAt("roof r ", "ata 1 weight 1;", 2);
        check.fault("draw 1 2;", 2, 7);
        check.due("one number", told("draw 12;").about(5), 12);
        check.sound("roof roofs at 1 weight 1;");
        check.faultAt("wind 1 ", "ors 1;", 2);
        check.faultAt("wind ", "nothing;", 2);
    }

    private void letterBehindANumber() {
        check.says(4, "no letter directly behind an N");
        check.faultAt("roof r at ", "1weight 1;", 1);
        check.faultAt("roof r at ", "1a", 1);
        check.faultAt("wind ", "1or 1;", 1);
        check.sound("roof r at 1 weight 1;");
        check.sound("roof r at 1\nweight 1;");
        check.sound("roof r at1 weight1;");
        check.sound("wind 1+height*2;");
        check.fault("draw 1$", 1, 6);
    }

    private void noNames() {
        check.says(4, "Words that stand for themselves here are no NAMES.");
        String[] words = ("roof at weight kite of size cord height tied boy arms hours holds wind lift gust draw or and "
            + "not hour day force near age").split(" ");
        for (String word : words) {
            check.faultAt("roof ", word + " at 1 weight 1;", 2);
            check.faultAt(ROOF + "kite ", word + " of r at 1 size 1 cord 1;", 2);
            check.faultAt(ROOF + "kite k of ", word + " at 1 size 1 cord 1;", 2);
            check.faultAt("boy ", word + " arms 1;", 2);
            check.faultAt(KITE + BOY + "holds ", word + " k;", 2);
            check.faultAt(KITE + BOY + "holds b ", word + ";", 2);
        }
        String[] names = "line e both one sum term unit town n name yard roofs kites boys tie up down".split(" ");
        for (String name : names) {
            check.sound("roof " + name + " at 1 weight 1;kite " + name + " of " + name + " at 1 size 1 cord 1;boy " + name
                + " arms 1;holds " + name + " " + name + ";");
        }
    }

    /** The least and the most can be; what is one below or above can't. */
    private void range(String before, String after, int least, int most) {
        check.sound(before + least + after);
        check.sound(before + most + after);
        check.faultAt(before, most + 1 + after, 4);
        check.faultAt(before, 9999 + after, 4);
        if (least > 0) {
            check.faultAt(before, least - 1 + after, 4);
        }
    }

    private void roofs() {
        check.says(4, "At most 4 ROOFS (at a YARD 0 .. 19, weight 0 .. 999)");
        StringBuilder four = new StringBuilder();
        for (char c = 'a'; c < 'e'; c++) {
            four.append("roof ").append(c).append(" at 1 weight 1;");
        }
        check.sound(four.toString());
        check.due("ROOFS", told(four.toString()).about(1), 4);
        check.faultAt(four.toString(), "roof e at 1 weight 1;", 2);
        range("roof r at ", " weight 1;", 0, 19);
        range("roof r at 1 weight ", ";", 0, 999);
        check.due("YARD 19", told("roof r at 19 weight 999;").roof(0, 5), 19);
        check.due("weight 999", told("roof r at 19 weight 999;").roof(0, 0), 999);
    }

    private void kites() {
        check.says(4, "8 KITES (of a ROOF told ahead, their spool at a YARD; size 1 .. 9, cord 1 .. 999, height 0 .. 9, "
            + "0 if not told)");
        StringBuilder eight = new StringBuilder(ROOF);
        for (char c = 'a'; c < 'i'; c++) {
            eight.append("kite ").append(c).append(" of r at 1 size 1 cord 1;");
        }
        check.sound(eight.toString());
        check.due("KITES", told(eight.toString()).about(0), 8);
        check.faultAt(eight.toString(), "kite i of r at 1 size 1 cord 1;", 2);
        String kite = ROOF + "kite k of r at ";
        range(kite, " size 1 cord 1;", 0, 19);
        range(kite + "1 size ", " cord 1;", 1, 9);
        range(kite + "1 size 1 cord ", ";", 1, 999);
        range(kite + "1 size 1 cord 1 height ", ";", 0, 9);
        KiteRoofs x = told(kite + "19 size 9 cord 999 height 9;wind 0;");
        check.due("spool 19", x.kite(0, 4), 19);
        check.due("cord 999", x.kite(0, 8), 999);
        check.due("height 9", x.kite(0, 0), 9);
        check.due("height not told", told(KITE).kite(0, 0), 0);
        check.faultAt("kite k of ", "r at 1 size 1 cord 1;" + ROOF, 5);
    }

    private void boys() {
        check.says(4, "4 BOYS (arms 1 .. 999, hours 1 .. 24; 4 if not told)");
        StringBuilder four = new StringBuilder();
        for (char c = 'a'; c < 'e'; c++) {
            four.append("boy ").append(c).append(" arms 1;");
        }
        check.sound(four.toString());
        check.due("BOYS", told(four.toString()).about(2), 4);
        check.faultAt(four.toString(), "boy e arms 1;", 2);
        range("boy b arms ", ";", 1, 999);
        range("boy b arms 1 hours ", ";", 1, 24);
        check.due("hours 24", told("boy b arms 1 hours 24;").boy(0, 1), 24);
        check.due("hours not told", told(BOY).boy(0, 1), 4);
        check.due("arms 999", told("boy b arms 999;").boy(0, 0), 999);
    }

    private void holds() {
        check.says(4, "holds (a BOY, a KITE, both told ahead; each KITE once, none that is tied)");
        check.sound(KITE + BOY + "holds b k;");
        check.faultAt(KITE + "holds ", "b k;" + BOY, 5);
        check.faultAt(BOY + "holds b ", "k;" + KITE, 5);
        check.faultAt(KITE + BOY + "holds b k;holds b ", "k;", 3);
        check.faultAt(KITE.replace("cord 1", "cord 1 tied") + BOY + "holds b ", "k;", 3);
        check.sound(KITE + "kite l of r at 1 size 1 cord 1;" + BOY + "holds b k;holds b l;");
        KiteRoofs x = told(KITE + "kite l of r at 1 size 1 cord 1;" + BOY + "boy c arms 1;holds c k;");
        check.due("held", x.kite(0, 1), 1);
        check.due("neither", x.kite(1, 1), -1);
    }

    private void numberedAsTold() {
        check.says(4, "numbered as told, each sort by itself");
        KiteRoofs x = told("boy b arms 11;roof r at 1 weight 21;boy c arms 12;kite k of r at 1 size 1 cord 31;"
            + "roof s at 1 weight 22;kite a of r at 1 size 1 cord 32;boy a arms 13;");
        for (int i = 0; i < 3; i++) {
            check.due("BOY " + i, x.boy(i, 0), 11 + i);
        }
        for (int i = 0; i < 2; i++) {
            check.due("ROOF " + i, x.roof(i, 0), 21 + i);
            check.due("KITE " + i, x.kite(i, 8), 31 + i);
        }
    }

    private void onceEach() {
        check.says(4, "wind, lift, gust (0 .. 100 by 100, of 1 .. 20; 0 of 1), draw (0 .. 999; 0) once each");
        String[] lines = {"wind 1;", "lift 1;", "gust 1 of 1;", "draw 1;"};
        check.sound(String.join("", lines));
        for (String line : lines) {
            check.faultAt(String.join("", lines), line, 2);
        }
        check.faultAt("gust 0 of 1;", "gust 0 of 1;", 2);
        check.faultAt("draw 0;", "draw 0;", 2);
        range("gust ", " of 1;", 0, 100);
        range("gust 0 of ", ";", 1, 20);
        range("draw ", ";", 0, 999);
        KiteRoofs x = told(ROOF + "kite k of r at 1 size 1 cord 9 height 1 tied;");
        check.due("gust not told: 0", x.odds(0, 1, 1), 1);
        check.due("gust not told: of 1", x.force(1, 1), 6);
        check.due("draw not told", x.about(5), 0);
        check.due("gust of 20", told("wind 0;gust 0 of 20;").force(1, 1), 20);
        check.due("draw 999", told("draw 999;").about(5), 999);
    }

    private void units() {
        check.says(4, "60 units in all, 30 in one e");
        String thirty = "1+".repeat(29) + "1";
        check.sound("wind " + thirty + ";");
        check.sound("lift " + thirty + ";");
        check.faultAt("wind " + thirty + "+", "1;", 2);
        check.faultAt("lift " + thirty + "+", "1;", 2);
        String[] joints = {"*", "/", "-", "<1 or ", " or ", " and ", " and not "};
        for (String joint : joints) {
            int each = joint.startsWith("<") ? 2 : 1;
            check.sound("wind " + ("1" + joint).repeat(29 / each) + "1;");
            check.faultAt("wind " + ("1" + joint).repeat(30 / each), "1;", 2);
        }
        check.faultAt("wind " + thirty + " or ", "height;", 2);
        check.due("60", told("wind " + thirty + ";lift " + thirty + ";").about(13), 60);
        check.faultAt("wind " + thirty + ";lift " + thirty + "+", "1;", 2);
        // ( e ) is a unit itself, as e's grammar says: ahead of those that are in it.
        check.sound("wind " + "1+".repeat(28) + "(1);");
        check.faultAt("wind " + "1+".repeat(29) + "(", "1);", 2);
        check.faultAt("wind " + thirty + "+", "(1);", 2);
        check.due("a not is none", told("wind not not 1;").about(13), 1);
    }

    private void depths() {
        check.says(4, "(a unit ( e ), or a one behind not, within 6 others at most)");
        check.sound("wind " + "(".repeat(7) + "1" + ")".repeat(7) + ";");
        check.faultAt("wind " + "(".repeat(7), "(1" + ")".repeat(8) + ";", 2);
        check.sound("wind " + "not ".repeat(7) + "1;");
        check.faultAt("wind " + "not ".repeat(7), "not 1;", 2);
        check.sound("wind not (not (not (not 1)));");
        check.faultAt("wind not (not (not (not ", "(1))));", 2);
        check.faultAt("wind (not (not (not (", "not 1))));", 2);
        // Only what is around counts, not what stood ahead.
        String seven = "(".repeat(7) + "1" + ")".repeat(7);
        check.sound("wind " + seven + "+" + seven + ";");
        check.sound("wind not not not 1 or not not not not not 1;");
        check.sound("wind " + seven + ";lift " + seven + ";");
        check.due("a unit at the bottom counts", told("wind " + seven.replace("1", "13") + ";").force(1, 0), 13);
    }

    private void firstFault() {
        check.says(5, "FAULTS, the first by its place");
        check.fault("roof r at 20 $", 4, 10);
        check.fault("roof $ at 20", 1, 5);
        check.fault("roof r at 20 weight 1000;", 4, 10);
        check.fault("draw 1;draw 1000;", 2, 7);
        check.fault("wind x;draw 1000;", 2, 5);

        check.says(5, "(bytes from 0; the end: the text's length)");
        check.fault("x", 2, 0);
        check.fault("roof", 2, 4);
        check.fault("roof  \n", 2, 7);
        check.fault(" roof", 2, 5);
        check.fault("draw 1", 2, 6);
        check.fault("wind 1+", 2, 7);

        check.says(5, "at one place the least");
        // No TOKEN, where another one could not stand, or one too many of a sort.
        check.faultAt("draw 7;", "drawdrawdraw 7;", 1);
        check.faultAt("wind " + "1+".repeat(30), "12345;", 1);
        check.faultAt("wind " + "(".repeat(7), "1a;", 1);
        // Where it can't stand a number that can't be is nothing else.
        check.faultAt("roof ", "9999", 2);
        // A word that is no NAME can't stand, and nothing has it.
        check.faultAt("holds ", "roof", 2);
        // One of a sort too many, whose NAME was told already.
        check.faultAt("boy a arms 1;boy c arms 1;boy d arms 1;boy e arms 1;", "boy a arms 0;", 2);
    }

    private void faultKinds() {
        check.says(5, "1 no TOKEN");
        check.faultAt("", "$", 1);
        check.faultAt("draw 1;", "\u00ff", 1);

        check.says(5, "2 one that can't stand there");
        check.faultAt("", "hall", 2);
        check.faultAt("roof ", "5", 2);
        check.faultAt("roof r ", "weight 1;", 2);
        check.faultAt("roof r at ", "weight 1;", 2);
        check.faultAt("roof r at 1 weight 1 ", "roof s", 2);
        check.faultAt("gust 1 ", "1;", 2);
        check.faultAt("gust 1", ";", 2);
        check.faultAt("draw 1 ", "1;", 2);

        check.says(5, "(one of a sort too many or a second time: at the line's first word");
        String four = "roof a at 1 weight 1;roof b at 1 weight 1;roof c at 1 weight 1;roof d at 1 weight 1;";
        check.faultAt(four, "roof $", 2);
        check.faultAt(four + " ", "roof", 2);
        check.faultAt("gust 1 of 1;\n", "gust 101", 2);
        check.faultAt("wind 1;", "wind", 2);

        check.says(5, "a unit too many, what is within 7 others: at its first TOKEN, or the not)");
        check.faultAt("wind " + "1+".repeat(30), "height;", 2);
        check.faultAt("wind " + "1+".repeat(30), "(1);", 2);
        check.faultAt("wind " + "(".repeat(7), "( $", 2);
        check.faultAt("wind " + "not ".repeat(7), "not $", 2);
        check.faultAt("wind " + "not ".repeat(7), "(1);", 2);

        check.says(5, "3 a NAME told already (of its sort)");
        check.faultAt(ROOF + "roof ", "r", 3);
        check.faultAt(KITE + "kite ", "k", 3);
        check.faultAt(BOY + "boy ", "b", 3);
        check.sound("boy r arms 1;" + ROOF + "kite r of r at 1 size 1 cord 1;");

        check.says(5, "holds of a KITE that is tied, or told already (at the KITE)");
        check.faultAt(KITE.replace("cord 1", "cord 1 tied") + BOY + "holds b ", "k $", 3);
        check.faultAt(KITE + BOY + "boy c arms 1;holds b k;holds c ", "k $", 3);

        check.says(5, "4 a number that can't be");
        check.faultAt("roof r at ", "20 $", 4);
        check.faultAt(ROOF + "kite k of r at 1 size ", "0 $", 4);

        check.says(5, "5 a NAME that nothing of the sort has.");
        check.faultAt(KITE + BOY + "kite l of ", "k", 5);
        check.faultAt(KITE + BOY + "kite l of ", "b", 5);
        check.faultAt(KITE + BOY + "holds ", "k", 5);
        check.faultAt(KITE + BOY + "holds ", "r", 5);
        check.faultAt(KITE + BOY + "holds b ", "b", 5);
        check.faultAt(KITE + BOY + "holds b ", "r", 5);
        check.faultAt(KITE + BOY + "holds b ", "kk", 5);
    }
}
