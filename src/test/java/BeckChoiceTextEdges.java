/** Boundary cases of the text: the terms ahead of ==== 2., promises 1 to 4. */
public final class BeckChoiceTextEdges {
    private static final Edges E = new Edges();
    private static final int NONE = Edges.NONE;

    // ---- promises 1 to 4

    private static void newObject() {
        E.says(1, "No BECKS, no RIVERS.");
        BeckChoice x = new BeckChoice();
        for (int what = 0; what <= 8; what++) {
            E.due("count(" + what + ")", x.count(what), 0);
        }
        for (int i = -1; i <= 6; i++) {
            E.due("beck(" + i + ", 0)", x.beck(i, 0), -2);
            E.due("river(" + i + ", 0)", x.river(i, 0), -2);
            E.due("likes(" + i + ", 0)", x.likes(i, 0), Edges.UNLIKED);
            E.due("takes(" + i + ", 0)", x.takes(i, 0), Edges.UNLIKED);
        }
        E.says(1, "(without one: no BECKS, no RIVERS)");
        E.due("holds()", x.holds(), 1);
        E.due("breaks()", x.breaks(), 0);
        E.due("breaking()", x.breaking(), NONE);
        E.due("choices()", x.choices(), 1);
        E.due("choice(0)", x.choice(0), 0);
        E.due("choice(1)", x.choice(1), NONE);
        E.due("sure()", x.sure(), 0);
        E.due("fairest()", x.fairest(), 0);
        E.due("fullest()", x.fullest(), 0);
        E.due("liars()", x.liars(), 0);
        E.due("floods()", x.floods(), 0);
        E.due("turnOff(0)", x.turnOff(0), 0);
        E.due("turnOff(1)", x.turnOff(1), 0);
        E.due("fault(0)", x.fault(0), 0);
        E.due("fault(1)", x.fault(1), NONE);
        E.due("declare(0, 0)", x.declare(0, 0), -11);
        E.due("year(5, 40)", x.year(5, 40), 0);
        E.due("count(6)", x.count(6), 0);
        E.says(1, "`NONE = -1`: There is none.");
        E.due("NONE", BeckChoice.NONE, -1);
    }

    /** 900 bytes without a fault: the last one is the ; of a law. */
    private static final String LONGEST = "land;likes:1" + Edges.times(443, "+1") + " ;";

    private static void feed() {
        E.says(2, "Twenty bytes come behind those on THE TAPE");
        BeckChoice x = new BeckChoice();
        Edges.feed(x, "land;beck flow 4;bec");
        Edges.feed(x, "k flow 5;           ");
        E.due("land(29)", x.land(29), 3);
        E.due("beck(0, 1)", x.beck(0, 1), 4);
        E.due("beck(1, 1)", x.beck(1, 1), 5);

        E.says(2, "the highest of each int first");
        x.feed(0x6c616e64, 0x3b626563, 0x6b20666c, 0x6f772037, 0x3b202020);
        E.due("land(17)", x.land(17), 2);
        E.due("beck(0, 1)", x.beck(0, 1), 7);
        x.feed(0xe96c616e, 0x20202020, 0x20202020, 0x20202020, 0x20202020);
        E.due("land(4)", x.land(4), -31);
        E.due("fault(1): a highest byte above 127", x.fault(1), 0);
        x.feed(0x6c616e64, 0x3b2020ff, 0x20202020, 0x20202020, 0x20202020);
        E.due("land(20)", x.land(20), -31);
        E.due("fault(1): a lowest byte above 127", x.fault(1), 7);
        x.feed(0x6c616e64, 0x3b200020, 0x20202020, 0x20202020, 0x20202020);
        E.due("land(20)", x.land(20), -31);
        E.due("fault(1): a byte 0", x.fault(1), 6);
        x.feed(0x6c616e64, 0x3b202020, 0x20202020, 0x20202020, 0x2020203f);
        E.due("land(20)", x.land(20), -31);
        E.due("fault(1): the lowest byte of the last int", x.fault(1), 19);

        E.says(2, "how many it has");
        for (int i = 1; i <= 45; i++) {
            E.due("feed " + i, Edges.feed(x, LONGEST.substring(20 * i - 20, 20 * i)), 20 * i);
            E.due("count(7)", x.count(7), 20 * i);
        }
        E.says(2, "-5: it would have more than 900.");
        E.due("feed 46", x.feed(0x3f3f3f3f, 0x3f3f3f3f, 0x3f3f3f3f, 0x3f3f3f3f, 0x3f3f3f3f), -5);
        E.due("feed 47", x.feed(0, 0, 0, 0, 0), -5);
        E.due("count(7)", x.count(7), 900);
        E.due("land(900) as it was fed", x.land(900), 2);
        E.due("feed behind it", x.feed(0x20202020, 0x20202020, 0x20202020, 0x20202020, 0x20202020), 20);
    }

    private static void land() {
        E.says(3, "THE LAND is a TEXT of at most 900 bytes");
        E.due("length", LONGEST.length(), 900);
        E.fine(LONGEST, 2);
        E.due("likes(0, 0)", E.of(LONGEST.replace("land;likes:1+1+1+1+1+1+1+1+1+1+1+1+1+1+1",
            "land;river room 0;beck flow 0;likes:1+1")).likes(0, 0), 444 - 13);
        E.faulty(LONGEST.substring(0, 899) + "^", 2);
        E.faulty(LONGEST.substring(0, 899) + "^,", 1);
        E.fine("land;" + Edges.times(111, "takes:1;"), 112);
        E.fine("land;" + Edges.times(895, " "), 1);
        E.fine(Edges.times(895, "\n") + "land;", 1);

        BeckChoice again = new BeckChoice();
        for (int i = 1; i <= 9; i++) {
            String law = "land;river room 0;beck flow 0;takes:" + i + Edges.times(430, "+1") + ";";
            E.due("land " + i + " of the longest laws", Edges.land(again, law), 4);
            E.due("takes(0, 0)", again.takes(0, 0), i + 430);
        }

        E.says(3, "The first n bytes of THE TAPE (which is empty then) are THE LAND");
        String two = "land;beck flow 1;beck flow 23;";
        firstBytes(two, 17, 2, 1);
        firstBytes(two, 5, 1, 0);
        firstBytes(two, 4, -32, 9);
        firstBytes(two, 0, -32, 9);
        firstBytes(two, 16, -32, 9);
        firstBytes(two, 18, -32, 9);
        firstBytes(two, 28, -32, 9);
        firstBytes(two, 29, -33, 9);
        firstBytes(two, 30, -33, 9);

        E.says(3, "(which is empty then)");
        BeckChoice x = new BeckChoice();
        Edges.feed(x, two + two);
        E.due("land(5)", x.land(5), 1);
        E.due("count(7) behind a land", x.count(7), 0);
        E.due("land(0) of an empty tape", x.land(0), -32);
        Edges.feed(x, two + two);
        E.due("land(4)", x.land(4), -32);
        E.due("count(7) behind a fault", x.count(7), 0);
        E.due("feed", Edges.feed(x, "land;"), 20);
        E.due("land(5): nothing of the text ahead", x.land(5), 1);

        E.says(3, "GIFTS are 0, nothing can be UNDONE");
        String wide = "land;river room 2;river room 2;beck flow 3 to 0;beck flow 4;";
        BeckChoice y = E.of(wide);
        y.send(0, 0, 9);
        y.send(1, 1, 1);
        y.rain(0, 0);
        y.room(0, 0);
        y.declare(1, 1);
        Edges.land(y, wide);
        E.due("count(5)", y.count(5), 0);
        E.due("count(6)", y.count(6), 0);
        E.due("undo(1)", y.undo(1), -3);
        E.same("is as told", y, E.of(wide));

        E.says(3, "how many LINES (land, too;");
        E.due("land of one", Edges.land(y, "land;"), 1);
        E.due("count(8)", y.count(8), 1);
        E.due("land of ten", Edges.land(y, "land;" + Edges.times(4, "river room 1;") + Edges.times(2, "likes:1;takes:2;")
            + "beck flow 1;"), 10);
        E.due("count(8)", y.count(8), 10);
    }

    private static void firstBytes(String text, int n, int lines, int becks) {
        BeckChoice x = E.of("land;" + Edges.times(6, "beck flow 9;"));
        Edges.feed(x, text);
        E.due("land(" + n + ") of " + text, x.land(n), lines);
        E.due("count(0)", x.count(0), lines < 0 ? 6 : becks);
    }

    private static void refusedLand() {
        String first = "land;river room 1 name 3;beck flow 1 mark 2;likes:gifts+5;takes:flow;";
        E.says(3, "all stays with a FAULT");
        BeckChoice x = E.of(first);
        BeckChoice y = E.of(first);
        for (BeckChoice z : new BeckChoice[] {x, y}) {
            z.send(0, 0, 2);
            z.declare(0, 0);
            z.image(0);
            Edges.tray(z, 0, 100);
        }
        E.due("land with a fault at its end", Edges.land(x,
            "land;beck flow 7;beck flow 7 mark 4;river room 4 name 6;likes:77;takes:99;?"), -31);
        E.same("stays", x, y);
        for (int what = 0; what <= 8; what++) {
            E.due("count(" + what + ") stays", x.count(what), y.count(what));
        }
        x.send(0, 0, 1);
        y.send(0, 0, 1);
        E.same("stays, by the laws ahead", x, y);
        E.due("undo(3)", x.undo(3), 0);
        E.due("perform(0)", x.perform(0), 0);
        E.due("restore(0)", x.restore(0), 0);
        E.due("gifts(0, 0)", x.gifts(0, 0), 2);

        E.says(3, "-3: n is below 0 or above what there is (THE TAPE stays)");
        BeckChoice z = E.of(first);
        E.due("land(1) of an empty tape", z.land(1), -3);
        Edges.feed(z, "land;beck flow 8;");
        for (int n : new int[] {-1, -20, 21, 40, 900, 901, Integer.MAX_VALUE, Integer.MIN_VALUE}) {
            E.due("land(" + n + ")", z.land(n), -3);
            E.due("count(7)", z.count(7), 20);
            E.due("beck(0, 1)", z.beck(0, 1), 1);
        }
        E.due("land(20)", z.land(20), 2);
        E.due("beck(0, 1)", z.beck(0, 1), 8);

        E.says(3, "-30 less the FAULT.");
        E.due("land of fault 1", Edges.land(z, "?"), -31);
        E.due("land of fault 2", Edges.land(z, "x"), -32);
        E.due("land of fault 3", Edges.land(z, "land;beck flow 10;"), -33);
        E.due("land of fault 4", Edges.land(z, "land;takes:((((((("), -34);
        E.says(3, "-30 less the FAULT: a text.");
        E.due("land behind them", Edges.land(z, "land;"), 1);
        E.due("land of no text", z.land(0), -32);
    }

    private static void fault() {
        E.says(4, "Of the latest land() that was read");
        BeckChoice x = new BeckChoice();
        Edges.land(x, "land;beck flow 10;");
        Edges.feed(x, "land;");
        x.land(-1);
        x.land(21);
        E.due("fault(0) behind what wasn't read", x.fault(0), 3);
        E.due("fault(1) behind what wasn't read", x.fault(1), 15);
        x.land(3);
        E.due("fault(0) of a later one", x.fault(0), 2);
        E.due("fault(1) of a later one", x.fault(1), 0);
        x.image(0);
        x.restore(0);
        E.due("fault(0) behind an image", x.fault(0), 2);
        E.says(4, "what 0: its FAULT (0), 1: its place (NONE)");
        Edges.land(x, "land;");
        E.due("fault(0)", x.fault(0), 0);
        E.due("fault(1)", x.fault(1), NONE);
        E.due("fault(0) of a new object", new BeckChoice().fault(0), 0);
        E.due("fault(1) of a new object", new BeckChoice().fault(1), NONE);
        E.says(4, "NONE for others.");
        Edges.land(x, "?");
        for (int what : Edges.OUTSIDE) {
            E.due("fault(" + what + ")", x.fault(what), NONE);
        }
        E.due("fault(2)", x.fault(2), NONE);
    }

    // ---- the text's lines

    private static void lines() {
        E.says(3, "land ; { LINE ; }");
        E.fine("land;", 1);
        E.fine(" land ; ", 1);
        E.fine("\nland\n;\n", 1);
        E.faulty("^;", 2);
        E.faulty("land^:", 2);
        E.faulty("land;^;", 2);
        E.faulty("land;beck flow 1;^;", 2);
        E.faulty("land;beck flow 1 ^river room 1;", 2);
        E.faulty("land;likes:1 ^takes:1;", 2);
        E.faulty("land;^flow 1;", 2);
        E.faulty("land;^1;", 2);
        E.says(4, "(the end: the text's length;");
        E.faulty("^", 2);
        E.faulty(" \n^", 2);
        E.faulty("land^", 2);
        E.faulty("land \n ^", 2);
        E.faulty("land;beck^", 2);
        E.faulty("land;beck flow \n^", 2);
        E.faulty("land;beck flow 1^", 2);
        E.faulty("land;beck flow 1 mark^", 2);
        E.faulty("land;river room 1 bears 7  ^", 2);
        E.faulty("land;likes^", 2);
        E.faulty("land;likes:1+^", 2);
        E.faulty("land;likes:if 1=1 then 1 else 2^", 2);
        E.says(4, "land must be told first, and once");
        E.faulty("^beck flow 1;", 2);
        E.faulty("^river room 1;land;", 2);
        E.faulty("^likes:1;", 2);
        E.faulty("land ^land;", 2);
        E.faulty("land;^land;", 2);
        E.faulty("land;beck flow 1;^land;", 2);
    }

    private static void beckLines() {
        E.says(3, "LINE: beck flow N { FLAG }");
        E.fine("land;beck flow 1;", 2);
        E.fine("land;river room 1;beck flow 1 to 0 dry 1 mark 1;", 3);
        E.fine("land;river room 1;beck flow 1 mark 1 to 0 dry 1;", 3);
        E.faulty("land;beck^;", 2);
        E.faulty("land;beck ^1;", 2);
        E.faulty("land;beck flow^;", 2);
        E.faulty("land;beck flow ^mark 1;", 2);
        E.faulty("land;beck ^mark 1 flow 1;", 2);
        E.faulty("land;beck flow 1 ^1;", 2);
        E.faulty("land;beck flow 1 ^flow 1;", 2);
        E.faulty("land;beck flow^:1;", 2);
        E.says(3, "FLAG: mark N | dry N | to N.");
        for (String flag : new String[] {"mark", "dry", "to"}) {
            E.faulty("land;river room 6;beck flow 1 " + flag + "^;", 2);
            E.faulty("land;river room 6;beck flow 1 " + flag + " ^" + flag + " 0;", 2);
            E.faulty("land;river room 6;beck flow 1 " + flag + " 0 ^0;", 2);
            E.faulty("land;river room 6 ^" + flag + " 0;", 2);
            E.faulty("land;^" + flag + " 0;", 2);
        }
        E.says(3, "river room N { PART }");
        E.fine("land;river room 1;", 2);
        E.fine("land;river room 1 bears 1 name 1;", 2);
        E.faulty("land;river^;", 2);
        E.faulty("land;river ^1;", 2);
        E.faulty("land;river room^;", 2);
        E.faulty("land;river room ^name 1;", 2);
        E.faulty("land;river ^name 1 room 1;", 2);
        E.faulty("land;river room 1 ^1;", 2);
        E.faulty("land;river room 1 ^room 1;", 2);
        E.faulty("land;river ^flow 1;", 2);
        E.faulty("land;beck ^room 1;", 2);
        E.says(3, "PART: name N | bears N.");
        for (String part : new String[] {"name", "bears"}) {
            E.faulty("land;river room 1 " + part + "^;", 2);
            E.faulty("land;river room 1 " + part + " ^" + part + " 0;", 2);
            E.faulty("land;river room 1 " + part + " 0 ^0;", 2);
            E.faulty("land;beck flow 1 ^" + part + " 0;", 2);
            E.faulty("land;^" + part + " 0;", 2);
        }
        E.says(3, "likes : SUM | takes : SUM.");
        for (String law : new String[] {"likes", "takes"}) {
            E.fine("land;" + law + ":1;", 2);
            E.faulty("land;" + law + "^;", 2);
            E.faulty("land;" + law + " ^1;", 2);
            E.faulty("land;" + law + ":^;", 2);
            E.faulty("land;" + law + ":^:1;", 2);
            E.faulty("land;" + law + ":1 ^1;", 2);
            E.faulty("land;" + law + ":1^:", 2);
        }
    }

    private static void bounds() {
        within("beck: its FLOW, 0 to 9", "beck flow ", 9);
        within("mark 0 to 9 (0)", "beck flow 0 mark ", 9);
        within("dry: how likely, in 10, 0 to 10 (0)", "beck flow 0 dry ", 10);
        within("river: its ROOM, for how many BECKS, 0 to 6", "river room ", 6);
        within("name 0 to 9 (0)", "river room 0 name ", 9);
        within("bears 0 to 99 (99)", "river room 0 bears ", 99);
        BeckChoice x = E.of("land;river room 0;beck flow 0;");
        E.says(5, "mark 0 to 9 (0)");
        E.due("beck(0, 2)", x.beck(0, 2), 0);
        E.says(5, "0 to 10 (0)");
        E.due("beck(0, 3)", x.beck(0, 3), 0);
        E.says(5, "where it is, with room (nowhere)");
        E.due("beck(0, 0)", x.beck(0, 0), NONE);
        E.says(6, "name 0 to 9 (0)");
        E.due("river(0, 1)", x.river(0, 1), 0);
        E.says(6, "bears 0 to 99 (99)");
        E.due("river(0, 2)", x.river(0, 2), 99);
        BeckChoice y = E.of("land;river room 6 name 9 bears 0;beck flow 9 mark 9 dry 10 to 0;");
        E.due("river(0, 2)", y.river(0, 2), 0);
        // What a land ahead told doesn't show in one that doesn't tell it.
        Edges.land(y, "land;river room 0;beck flow 0;");
        E.same("untold", y, x);
        Edges.land(y, "land;beck flow 0;");
        E.due("beck(0, 4) without rivers", y.beck(0, 4), 0);
        E.due("river(0, 2) without rivers", y.river(0, 2), -2);
    }

    private static void within(String sentence, String line, int most) {
        E.says(3, sentence);
        E.fine("land;" + line + "0;", 2);
        E.fine("land;" + line + "00;", 2);
        E.fine("land;" + line + most + ";", 2);
        E.fine("land;" + line + (most < 10 ? "00" : "0") + most + ";", 2);
        E.faulty("land;" + line + "^" + (most + 1) + ";", 3);
        E.faulty("land;" + line + "^" + (most < 99 ? "0" : "") + (most + 1) + ";", 3);
        E.faulty("land;" + line + "^999;", 3);
        E.faulty("land;" + line + "^0000;", 1);
    }

    private static void to() {
        E.says(3, "to: a RIVER told ahead where it is, with room");
        String four = "land;river room 0;river room 6;river room 1;river room 2;";
        BeckChoice x = E.of(four + "beck flow 0 to 3;beck flow 0 to 1;beck flow 0 to 2;beck flow 0 to 3;beck flow 0;");
        int[] where = {3, 1, 2, 3, NONE};
        for (int b = 0; b < 5; b++) {
            E.due("beck(" + b + ", 0)", x.beck(b, 0), where[b]);
        }
        E.fine(four + Edges.times(6, "beck flow 0 to 1;"), 11);
        // Neither has to like the other: it is told to be there.
        E.due("beck(0, 0) where both wouldn't",
            E.of("land;river room 1;beck flow 0 to 0;likes:0;takes:0;").beck(0, 0), 0);
        E.says(4, "(a RIVER that isn't told, without room for it)");
        E.faulty(four + "beck flow 0 to ^4;", 3);
        E.faulty(four + "beck flow 0 to ^999;", 3);
        E.faulty("land;beck flow 0 to ^0;", 3);
        E.faulty("land;beck flow 0 to ^0;river room 1;", 3);
        E.faulty("land;river room 1;beck flow 0 to ^1;river room 1;", 3);
        E.faulty(four + "beck flow 0 to ^0;", 3);
        E.faulty(four + "beck flow 0 to 2;beck flow 0 to ^2;", 3);
        E.faulty(four + "beck flow 0 to 3;beck flow 0 to 3;beck flow 0 to ^3;", 3);
        E.says(3, "(of to: it isn't in the one ahead)");
        BeckChoice y = E.of(four + "beck flow 0 to 2 to 3;beck flow 0 to 2 to 2;beck flow 0 to 3;");
        E.due("beck(0, 0)", y.beck(0, 0), 3);
        E.due("beck(1, 0)", y.beck(1, 0), 2);
        E.due("beck(2, 0)", y.beck(2, 0), 3);
        E.due("river(2, 3)", y.river(2, 3), 2);
        E.faulty(four + "beck flow 0 to 2;beck flow 0 to 3 to ^2;", 3);
    }

    private static void manyAndLater() {
        E.says(3, "numbered from 0 on, 6 at most");
        BeckChoice x = E.of("land;beck flow 1;beck flow 2;beck flow 3;beck flow 4;beck flow 5;beck flow 6;");
        for (int b = 0; b < 6; b++) {
            E.due("beck(" + b + ", 1)", x.beck(b, 1), b + 1);
        }
        E.due("count(0)", x.count(0), 6);
        E.says(3, "numbered from 0 on, 4 at most");
        BeckChoice y = E.of("land;river room 1;river room 2;river room 3;river room 4;");
        for (int r = 0; r < 4; r++) {
            E.due("river(" + r + ", 0)", y.river(r, 0), r + 1);
        }
        E.due("count(1)", y.count(1), 4);
        E.says(3, "Later ones of a word strike");
        BeckChoice z = E.of("land;river room 1 name 1 bears 1 name 2 bears 2 name 3 bears 0;"
            + "beck flow 1 mark 1 dry 1 mark 2 dry 2 mark 0 dry 3;");
        E.due("river(0, 1)", z.river(0, 1), 3);
        E.due("river(0, 2)", z.river(0, 2), 0);
        E.due("beck(0, 2)", z.beck(0, 2), 0);
        E.due("beck(0, 3)", z.beck(0, 3), 3);
        E.faulty("land;river room 1 bears ^100 bears 1;", 3);
        E.says(3, "later ones of likes, takes, too");
        BeckChoice w = E.of("land;likes:1;takes:2;river room 1;likes:3;takes:4;beck flow 1;takes:5;");
        E.due("likes(0, 0)", w.likes(0, 0), 3);
        E.due("takes(0, 0)", w.takes(0, 0), 5);
        E.faulty("land;likes:^;likes:1;", 2);
    }

    // ---- laws

    private static final String LAWFUL = "land;river room 1;river room 1 name 7;beck flow 1;beck flow 5 mark 4;";

    /** What beck 1 (flow 5, mark 4) likes river 1 (name 7) by a law. */
    private static void law(String law, int want) {
        E.due("likes(1, 1) by " + law, E.of(LAWFUL + "likes:" + law + ";").likes(1, 1), want);
        E.due("takes(1, 1) by " + law, E.of(LAWFUL + "takes:" + law + ";").takes(1, 1), want);
    }

    private static void lawFault(String marked, int fault) {
        E.faulty("land;likes:" + marked, fault);
        E.faulty("land;takes:" + marked, fault);
    }

    private static void truth(String truth, boolean is) {
        law("if " + truth + " then 8 else 3 end", is ? 8 : 3);
    }

    private static void truthFault(String marked) {
        boolean atThen = marked.endsWith("^");
        String truth = atThen ? marked.substring(0, marked.length() - 1) : marked;
        lawFault("if " + truth + (atThen ? " ^then 8 else 3 end;" : " then 8 else 3 end;"), 2);
    }

    private static void sums() {
        E.says(3, "SUM: TERM { + TERM | - TERM }");
        law("9-2-3", 4);
        law("9-2+3", 10);
        law("9+2-3", 8);
        law("1-2", -1);
        law("1+2+3+4+5", 15);
        lawFault("1+^;", 2);
        lawFault("1-^;", 2);
        lawFault("^+1;", 2);
        lawFault("^-1;", 2);
        lawFault("1+^-1;", 2);
        E.says(3, "TERM: ATOM { * ATOM }");
        law("2*3*4", 24);
        law("1+2*3", 7);
        law("2*3+1", 7);
        law("9-2*3-1", 2);
        lawFault("1*^;", 2);
        lawFault("^*1;", 2);
        lawFault("1*^*1;", 2);
        lawFault("1*^-1;", 2);
        E.says(3, "ATOM: N, ( SUM )");
        law("0", 0);
        law("999", 999);
        law("007", 7);
        law("(8)", 8);
        law("(1+2)*3", 9);
        law("2*(9-(3-2))", 16);
        lawFault("(^);", 2);
        lawFault("(1^;", 2);
        lawFault("1^);", 2);
        lawFault("(1^=1);", 2);
        lawFault("^[1];", 2);
        lawFault("^1000;", 1);
        E.says(3, "if TRUTH then SUM else SUM end");
        law("if 1=1 then 5 else 6 end+1", 6);
        law("2*if 1=2 then 5 else 6 end*3", 36);
        law("if if 1=1 then 3 else 4 end=3 then if 1=2 then 1 else 2 end else 9 end", 2);
        lawFault("if ^then 1 else 1 end;", 2);
        lawFault("if 1=1 ^1 else 1 end;", 2);
        lawFault("if 1=1 then ^else 1 end;", 2);
        lawFault("if 1=1 then 1 ^end;", 2);
        lawFault("if 1=1 then 1 else ^end;", 2);
        lawFault("if 1=1 then 1 else 1^;", 2);
        lawFault("^then 1 else 1 end;", 2);
        E.says(3, "beck, flow, mark, river, name, gifts. TRUTH");
        law("beck", 1);
        law("flow", 5);
        law("mark", 4);
        law("river", 1);
        law("name", 7);
        law("gifts", 0);
        for (String word : "land room dry bears to likes takes then else end and or not x".split(" ")) {
            lawFault("^" + word + ";", 2);
        }
    }

    private static void truths() {
        E.says(3, "TRUTH: BOTH { or BOTH }; BOTH: UNIT { and UNIT }");
        String[] units = {"1=2", "1=1"};
        for (int i = 0; i < 8; i++) {
            boolean a = (i & 1) != 0;
            boolean b = (i & 2) != 0;
            boolean c = (i & 4) != 0;
            String x = units[i & 1];
            String y = units[i >> 1 & 1];
            String z = units[i >> 2];
            truth(x, a);
            truth(x + " or " + y, a || b);
            truth(x + " and " + y, a && b);
            truth(x + " or " + y + " and " + z, a || b && c);
            truth(x + " and " + y + " or " + z, a && b || c);
            truth("[" + x + " or " + y + "] and " + z, (a || b) && c);
            truth("not " + x + " and " + y, !a && b);
            truth("not [" + x + " and " + y + "]", !(a && b));
            truth("not " + x + " or not " + y, !a || !b);
            truth("not not " + x, a);
        }
        truthFault("^or 1=1");
        truthFault("1=1 or^");
        truthFault("1=1 or ^or 1=1");
        truthFault("1=1 and ^or 1=1");
        truthFault("1=1 ^1=1");
        truthFault("1=1 ^not 1=1");
        truthFault("1=1 ^xor 1=1");
        truthFault("1=1 ^o 1=1");
        truthFault("1=1 ^nd 1=1");
        E.says(3, "UNIT: not UNIT, [ TRUTH ], or SUM, one of = < >, SUM.");
        truth("2=2", true);
        truth("2=3", false);
        truth("3=2", false);
        truth("2<3", true);
        truth("2<2", false);
        truth("3<2", false);
        truth("3>2", true);
        truth("2>2", false);
        truth("2>3", false);
        truth("1+2*3=9-2", true);
        truth("0-1<0", true);
        truth("[[2=2]]", true);
        truth("(2)=2", true);
        truthFault("[^]");
        truthFault("[1^]");
        truthFault("[1=1^");
        truthFault("[1=1^)");
        truthFault("(1^=1)");
        truthFault("1^");
        truthFault("1=^");
        truthFault("^=1");
        truthFault("1=1^=1");
        truthFault("1=^=1");
        truthFault("1<^>2");
        truthFault("[1=1]^=1");
        truthFault("not^");
        truthFault("not ^and 1=1");
        truthFault("1+^not 1=1");
        truthFault("1=^not 1=1");
        truthFault("1=^[1=1]");
    }

    private static void nesting() {
        E.says(4, "At most six of not [ ( if within one another.");
        law("((((((8))))))", 8);
        law("((((((8))))))+((((((9))))))", 17);
        lawFault("((((((^(", 4);
        lawFault("((((((8))))))+((((((^(8", 4);
        truth("not not not not not 1=1", false);
        lawFault("if not not not not not ^not 1=1", 4);
        truth("[[[[[1=1]]]]] and [[[[[1=1]]]]]", true);
        lawFault("if [[[[[^[1=1", 4);
        String ifs = Edges.times(6, "if 1=1 then ") + "8" + Edges.times(6, " else 3 end");
        law(ifs, 8);
        law(ifs + "+" + ifs, 16);
        lawFault(Edges.times(6, "if 1=1 then ") + "^if 1=1 then", 4);
        lawFault(Edges.times(6, "if 1=1 then 1 else ") + "^if 1=1 then", 4);
        lawFault(Edges.times(6, "if ") + "^if 1=1 then", 4);
        law("(((((if 1=1 then 8 else 3 end)))))", 8);
        lawFault("(((((if 1=1 then 8 else ^(3", 4);
        lawFault("(((((if 1=1 then ^(8", 4);
        lawFault("(((((if ^(8", 4);
        lawFault("(((((if ^[8", 4);
        lawFault("(((((if ^not 8", 4);
        // All of a not's UNIT is within it, what is behind it isn't.
        lawFault("if not not not not not ^(1)=1", 4);
        lawFault("if not not not not not 1=^(1)", 4);
        lawFault("if not not not not not ^[1=1]", 4);
        truth("not not not not not 1=1 or (1)=1", true);
        truth("not not not not not 1=1 or not not not not 1=1", true);
        truth("[not [not [1=1]]] and [not [not [1=1]]]", true);
        lawFault("if [not [not [^(1", 4);
        lawFault("if [not [not [1=1]]] and [not [not [1=^(1", 4);
    }

    // ---- tokens and faults

    private static final String SIGNS = ";:+-*()[]=<>";

    private static void tokens() {
        E.says(4, "1 no TOKEN begins so");
        for (int c = 0; c < 256; c++) {
            boolean letterOrDigit = c >= 'a' && c <= 'z' || c >= '0' && c <= '9';
            if (c == 10 || c == 32) {
                E.fine("land;" + (char) c, 1);
            } else if (letterOrDigit || SIGNS.indexOf(c) >= 0) {
                E.faulty("land;^" + (char) c, 2);
            } else {
                BeckChoice x = new BeckChoice();
                E.due("land with byte " + c, Edges.land(x, "land;" + (char) c), -31);
                E.due("fault(1) of byte " + c, x.fault(1), 5);
            }
        }
        E.says(3, "between them blanks (10, 32)");
        E.fine("land \n ; \n\n beck  flow\n1 ;\n", 2);
        E.fine("land;river room 1;likes:(1+2)*3-4;", 3);
        E.faulty("land^\t;", 1);
        E.faulty("land;beck flow 1^\r\n;", 1);
        E.says(3, "the signs ; : + - * ( ) [ ] = < >.");
        E.fine("land;likes:if [1+2-1*(1)=1] and 1<2 or 2>1 then 1 else 2 end;", 2);
        for (String sign : "! # $ % & , . / ? @ \\ _ { | } ~ \" '".split(" ")) {
            E.faulty("land;likes:1^" + sign + "1;", 1);
        }
        E.says(3, "TOKENS, as long as they go on");
        E.faulty("^landbeck flow 1;", 2);
        E.faulty("land;^beckflow 1;", 2);
        E.faulty("land;^bec k flow 1;", 2);
        E.faulty("land;beck flow 1 ^2;", 2);
        E.faulty("land;likes:1 ^2;", 2);
        E.fine("land;beck flow1mark2dry3;", 2);
        E.due("beck(0, 3)", E.of("land;beck flow1mark2dry3;").beck(0, 3), 3);
        E.says(3, "words (small letters)");
        E.faulty("^Land;", 1);
        E.faulty("land;^Beck flow 1;", 1);
        E.faulty("land;^be", 2);
        E.faulty("land;^becks flow 1;", 2);
        E.faulty("land;^likesx:1;", 2);
        E.faulty("land;^" + Edges.times(300, "z") + ";", 2);
        E.faulty("land;beck ^flo 1;", 2);
        E.faulty("land;likes:^giftss;", 2);
        E.says(3, "N (1 to 3 digits)");
        law("1", 1);
        law("12", 12);
        law("123", 123);
        law("000", 0);
        E.says(4, "(4 digits and more: at their first)");
        lawFault("^1234;", 1);
        lawFault("^0000;", 1);
        lawFault("^" + Edges.times(300, "1") + ";", 1);
        lawFault("1+^4294967297;", 1);
        E.faulty("land;beck flow ^0001;", 1);
        E.faulty("land;beck flow 1 dry ^00010;", 1);
    }

    private static void faultKinds() {
        String sixBecks = "land;" + Edges.times(6, "beck flow 1;");
        String fourRivers = "land;" + Edges.times(4, "river room 1;");
        E.says(4, "FAULTS, the first along the text");
        E.faulty("land;beck flow ^10;?", 3);
        E.faulty("land;^?beck flow 10;", 1);
        E.faulty("land;beck ^? flow 10;", 1);
        E.faulty("land;river room ^7 bears 100;", 3);
        E.faulty("land;^x ?", 2);
        E.faulty("land;beck flow 1 mark ^10 dry 11;", 3);
        E.faulty(sixBecks + "^beck ?", 4);
        E.faulty(sixBecks + "likes:^;beck flow 1;", 2);
        E.faulty("land;likes:((((((^(?", 4);
        E.says(4, "of one TOKEN the least kind");
        E.faulty("land;^1000", 1);
        E.faulty("land;^100", 2);
        E.faulty("land;beck ^10", 2);
        E.faulty("land;beck flow ^1000;", 1);
        E.faulty("land;beck flow 1 ^99;", 2);
        E.faulty("land;beck flow 1 to ^1000;", 1);
        E.faulty(sixBecks.substring(0, sixBecks.length() - 1) + " ^beck flow 1;", 2);
        E.faulty(fourRivers.substring(0, fourRivers.length() - 1) + " ^river room 1;", 2);
        E.faulty("land;likes:((((((^not", 2);
        E.faulty("land;likes:((((((^[", 2);
        E.faulty("land;likes:((((((1^(", 2);
        E.faulty("land;likes:((((((1 ^if", 2);
        E.says(4, "2 it can't stand there");
        E.faulty("land;beck flow 1 ^likes:1;", 2);
        E.faulty("land;beck flow ^:1;", 2);
        E.says(4, "3 an N out of its bounds");
        E.faulty("land;beck flow ^10", 3);
        E.faulty("land;river room ^7", 3);
        E.says(4, "4 the first TOKEN of a 7th beck, a 5th river");
        E.faulty(sixBecks + "^beck flow 1;", 4);
        E.faulty(sixBecks + "^beck", 4);
        E.faulty(sixBecks + "^beck beck", 4);
        E.faulty(sixBecks + "river room 1;^beck flow 1;", 4);
        E.faulty(fourRivers + "^river room 1;", 4);
        E.faulty(fourRivers + "^river room 7;", 4);
        E.faulty(fourRivers + "beck flow 1;^river", 4);
        E.fine(fourRivers + sixBecks.substring(5), 11);
        E.says(4, "a seventh of not [ ( if.");
        E.faulty("land;takes:((((((^((", 4);
        E.faulty("land;takes:((((((^if", 4);
        E.faulty("land;takes:(((((if ^not", 4);
        E.faulty("land;takes:(((((if ^[", 4);
    }

    public static void main(String[] args) {
        newObject();
        feed();
        land();
        refusedLand();
        fault();
        lines();
        beckLines();
        bounds();
        to();
        manyAndLater();
        sums();
        truths();
        nesting();
        tokens();
        faultKinds();
        E.end();
    }
}
