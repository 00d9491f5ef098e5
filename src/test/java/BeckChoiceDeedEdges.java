import java.math.BigInteger;

/** Boundary cases of laws and deeds: the terms behind ==== 2., promises 5 to 18. */
public final class BeckChoiceDeedEdges {
    private static final Edges E = new Edges();
    private static final int NONE = Edges.NONE;

    /** As many becks and rivers as can be, each where its number tells or nowhere; all would. */
    private static final String FULL = "land;river room 2 bears 9;river room 6 name 9 bears 10;river room 1 bears 0;"
        + "river room 3 name 4;beck flow 5 to 0;beck flow 4 to 0;beck flow 9 mark 9 dry 10 to 1;beck flow 2 to 1;"
        + "beck flow 1 dry 3;beck flow 0 to 2;";

    // ---- laws

    private static void law(String law, int want) {
        BeckChoice x = E.of("land;river room 1;river room 1 name 7;beck flow 1;beck flow 5 mark 4;likes:" + law
            + ";takes:" + law + ";");
        E.due("likes(1, 1) by " + law, x.likes(1, 1), want);
        E.due("takes(1, 1) by " + law, x.takes(1, 1), want);
    }

    private static void laws() {
        E.says(7, "each + - * is kept from -1,000,000 to 1,000,000");
        law("999*999+999+999", 999999);
        law("999*999+999+999+1", 1000000);
        law("999*999+999+999+2", 1000000);
        law("999*999+999+999+2-1", 999999);
        law("0-999*999-999-999", -999999);
        law("0-999*999-999-999-1", -1000000);
        law("0-999*999-999-999-2", -1000000);
        law("0-999*999-999-999-2+1", -999999);
        law("500*500*4", 1000000);
        law("501*500*4", 1000000);
        law("501*500*4-1", 999999);
        law("(0-500)*500*4", -1000000);
        law("(0-501)*500*4", -1000000);
        law("(0-501)*500*4+1", -999999);
        law("999*999*999*999*999*999*999*999", 1000000);
        law("(0-999*999)*(0-999*999)", 1000000);
        law("(0-999*999)*(999*999)", -1000000);
        law("999*999*999*0", 0);
        law("999*999*999-999*999*999-1", -1);
        law("999*999*2-999*999", 1000000 - 998001);
        E.says(7, "if tells the one SUM, if the TRUTH holds, else the other one");
        law("if mark<name then 2 else 3 end", 2);
        law("if mark>name then 2 else 3 end", 3);
        E.says(7, "A BECK LIKES a RIVER, a RIVER LIKES a BECK as much as the laws likes, takes tell");
        BeckChoice two = E.of("land;river room 1;river room 1;beck flow 1;beck flow 1;likes:beck-river*3;takes:river-beck*5;");
        E.due("likes(0, 1)", two.likes(0, 1), -3);
        E.due("likes(1, 0)", two.likes(1, 0), 1);
        E.due("takes(0, 1)", two.takes(0, 1), -5);
        E.due("takes(1, 0)", two.takes(1, 0), 1);
        E.says(7, "(without one: 1, each)");
        BeckChoice x = E.of("land;river room 1;beck flow 1;takes:5;");
        E.due("likes(0, 0)", x.likes(0, 0), 1);
        E.due("takes(0, 0)", x.takes(0, 0), 5);
        E.says(8, "(without one: 1, each)");
        BeckChoice y = E.of("land;river room 1;beck flow 1;likes:5;");
        E.due("takes(0, 0)", y.takes(0, 0), 1);
        E.due("likes(0, 0)", y.likes(0, 0), 5);
        // A land without laws has none of the land ahead.
        for (BeckChoice z : new BeckChoice[] {x, y}) {
            Edges.land(z, "land;river room 1;beck flow 1;");
            E.due("likes(0, 0) by no law", z.likes(0, 0), 1);
            E.due("takes(0, 0) by no law", z.takes(0, 0), 1);
        }
        inBothLaws();
    }

    private static void inBothLaws() {
        E.says(8, "In both laws: beck, flow, mark: the BECK's number, FLOW, mark, river, name: the RIVER's number, name");
        String all = "beck+flow*10+mark*100+(river+name*10+gifts*100)*10*100";
        BeckChoice x = E.of(FULL + "likes:" + all + ";takes:" + all + ";");
        x.send(1, 2, 3);
        for (int b = 0; b < 6; b++) {
            for (int r = 0; r < 4; r++) {
                int want = b + x.beck(b, 1) * 10 + x.beck(b, 2) * 100
                    + (r + x.river(r, 1) * 10 + x.gifts(r, b) * 100) * 1000;
                E.due("likes(" + b + ", " + r + ")", x.likes(b, r), want);
                E.due("takes(" + r + ", " + b + ")", x.takes(r, b), want);
            }
        }
        E.due("likes(2, 1)", x.likes(2, 1), 2 + 90 + 900 + 1000 + 90000 + 300000);
        E.says(8, "gifts: GIFTS the RIVER has sent the BECK (0 to 9, 0 at first)");
        E.due("likes(1, 2) without gifts", x.likes(1, 2), 1 + 40 + 2000);
        x.send(2, 1, 9);
        E.due("likes(1, 2)", x.likes(1, 2), 1 + 40 + 2000 + 900000);
        E.due("takes(2, 1)", x.takes(2, 1), 1 + 40 + 2000 + 900000);
        E.due("likes(2, 1) of another two", x.likes(2, 1), 2 + 90 + 900 + 1000 + 90000 + 300000);
        E.says(5, "above 0: it WOULD");
        // River 0 is liked as 1, river 1 as 0, river 2 as -1; beck 1 is taken as 0, beck 2 as -1.
        BeckChoice y = E.of("land;river room 1;river room 1;river room 1;beck flow 1;beck flow 1;beck flow 1;"
            + "likes:1-river;takes:1-beck;");
        E.due("beck(0, 4)", y.beck(0, 4), 1);
        E.due("beck(1, 4)", y.beck(1, 4), 0);
        E.due("beck(2, 4)", y.beck(2, 4), 0);
        E.due("beck(0, 4) of four", E.of(FULL).beck(0, 4), 15);
        E.says(6, "Of those liked alike each likes the one of less number better.");
        BeckChoice z = E.of(FULL);
        for (int r = 0; r < 4; r++) {
            E.due("river(" + r + ", 5)", z.river(r, 5), new int[] {1, 3, 5, NONE}[r]);
        }
        E.due("forBecks(0) of like rivers", z.forBecks(0), 0);
        E.due("forBecks(2) of like rivers", z.forBecks(2), 1);
    }

    // ---- promises 5 to 9

    private static void lookAtBeck() {
        BeckChoice x = E.of(FULL + "takes:5-beck;");
        E.says(5, "Of a BECK, what 0: where it is (NONE), 1: FLOW, 2: mark, 3: dry, 4: RIVERS where both WOULD, as bits.");
        int[][] want = {{0, 5, 0, 0, 15}, {0, 4, 0, 0, 15}, {1, 9, 9, 10, 15}, {1, 2, 0, 0, 15}, {NONE, 1, 0, 3, 15},
            {2, 0, 0, 0, 0}};
        for (int b = 0; b < 6; b++) {
            for (int what = 0; what < 5; what++) {
                E.due("beck(" + b + ", " + what + ")", x.beck(b, what), want[b][what]);
            }
        }
        x.rain(2, 1);
        E.due("beck(2, 1) behind rain", x.beck(2, 1), 1);
        E.says(5, "-2.");
        E.due("beck(6, 0)", x.beck(6, 0), -2);
        E.due("beck(0, 5)", x.beck(0, 5), -2);
        for (int i : Edges.OUTSIDE) {
            E.due("beck(" + i + ", 0)", x.beck(i, 0), -2);
            E.due("beck(0, " + i + ")", x.beck(0, i), -2);
        }
        BeckChoice y = E.of("land;river room 1;beck flow 3;");
        E.due("beck(1, 1) of one", y.beck(1, 1), -2);
    }

    private static void lookAtRiver() {
        BeckChoice x = E.of(FULL);
        E.says(6, "Of a RIVER, what 0: ROOM, 1: name, 2: what it bears, 3: which BECKS are there, as bits, 4: the FLOW of"
            + " these together, 5: the one it likes least (NONE).");
        int[][] want = {{2, 0, 9, 3, 9, 1}, {6, 9, 10, 12, 11, 3}, {1, 0, 0, 32, 0, 5}, {3, 4, 99, 0, 0, NONE}};
        for (int r = 0; r < 4; r++) {
            for (int what = 0; what < 6; what++) {
                E.due("river(" + r + ", " + what + ")", x.river(r, what), want[r][what]);
            }
        }
        BeckChoice all = E.of("land;river room 6;" + Edges.times(6, "beck flow 9 to 0;") + "takes:beck-3;");
        E.due("river(0, 3) of six", all.river(0, 3), 63);
        E.due("river(0, 4) of six", all.river(0, 4), 54);
        E.due("river(0, 5) by the law", all.river(0, 5), 0);
        all.room(0, 5);
        all.rain(1, 0);
        E.due("river(0, 0) behind room", all.river(0, 0), 5);
        E.due("river(0, 4) behind rain and room", all.river(0, 4), 36);
        E.says(6, "-2.");
        E.due("river(4, 0)", x.river(4, 0), -2);
        E.due("river(0, 6)", x.river(0, 6), -2);
        for (int i : Edges.OUTSIDE) {
            E.due("river(" + i + ", 0)", x.river(i, 0), -2);
            E.due("river(0, " + i + ")", x.river(0, i), -2);
        }
        E.due("river(1, 0) of one", E.of("land;river room 1;").river(1, 0), -2);
    }

    private static void lookAtTwo() {
        BeckChoice x = E.of(FULL);
        E.says(7, "How much a BECK LIKES a RIVER. -99000002.");
        E.due("likes(5, 3)", x.likes(5, 3), 1);
        E.due("likes(6, 3)", x.likes(6, 3), Edges.UNLIKED);
        E.due("likes(5, 4)", x.likes(5, 4), Edges.UNLIKED);
        E.says(8, "How much a RIVER LIKES a BECK. -99000002.");
        E.due("takes(3, 5)", x.takes(3, 5), 1);
        E.due("takes(3, 6)", x.takes(3, 6), Edges.UNLIKED);
        E.due("takes(4, 5)", x.takes(4, 5), Edges.UNLIKED);
        E.says(9, "GIFTS a RIVER has sent a BECK. -2.");
        x.send(3, 5, 9);
        E.due("gifts(3, 5)", x.gifts(3, 5), 9);
        E.due("gifts(3, 4)", x.gifts(3, 4), 0);
        E.due("gifts(2, 5)", x.gifts(2, 5), 0);
        E.due("gifts(3, 6)", x.gifts(3, 6), -2);
        E.due("gifts(4, 5)", x.gifts(4, 5), -2);
        E.says(7, "likes(), takes(): -99000002.");
        for (int i : Edges.OUTSIDE) {
            E.due("likes(" + i + ", 0)", x.likes(i, 0), Edges.UNLIKED);
            E.due("likes(0, " + i + ")", x.likes(0, i), Edges.UNLIKED);
            E.due("takes(" + i + ", 0)", x.takes(i, 0), Edges.UNLIKED);
            E.due("takes(0, " + i + ")", x.takes(0, i), Edges.UNLIKED);
            E.due("gifts(" + i + ", 0)", x.gifts(i, 0), -2);
            E.due("gifts(0, " + i + ")", x.gifts(0, i), -2);
        }
    }

    // ---- promises 10 to 14

    /** A call that was refused changed nothing. */
    private static void refused(String call, BeckChoice x, int got, int want, String untouched) {
        E.due(call, got, want);
        BeckChoice y = E.of(untouched);
        E.same("behind " + call, x, y);
        E.due("count(6) behind " + call, x.count(6), 0);
    }

    private static void declare() {
        E.says(10, "A BECK is in a RIVER, or NOWHERE. To DECLARE itself for a RIVER that it WOULD and that WOULD: if there is"
            + " ROOM, it is there then (nowhere else)");
        BeckChoice x = E.of(FULL);
        E.due("declare(0, 3)", x.declare(0, 3), NONE);
        E.due("river(3, 3)", x.river(3, 3), 1);
        E.due("river(0, 3)", x.river(0, 3), 2);
        E.due("declare(4, 3)", x.declare(4, 3), NONE);
        E.due("declare(5, 3) for the last room", x.declare(5, 3), NONE);
        E.due("river(3, 3)", x.river(3, 3), 49);
        E.says(10, "if not, and the RIVER likes one of its BECKS less, the one it likes least is pushed out, NOWHERE, and"
            + " it is there");
        E.due("declare(3, 3): beck 5 is liked least", x.declare(3, 3), 5);
        E.due("river(3, 3)", x.river(3, 3), 25);
        E.due("beck(5, 0)", x.beck(5, 0), NONE);
        E.due("river(1, 3)", x.river(1, 3), 4);
        E.due("declare(1, 3): beck 4 is liked least then", x.declare(1, 3), 4);
        BeckChoice y = E.of("land;river room 2;beck flow 2 to 0;beck flow 7 to 0;beck flow 5;beck flow 2;takes:flow;");
        E.due("declare(3, 0): alike, of more number", y.declare(3, 0), -14);
        E.due("declare(2, 0)", y.declare(2, 0), 0);
        E.due("declare(0, 0): liked less than both", y.declare(0, 0), -14);
        y.rain(0, 6);
        E.due("declare(0, 0): liked better than one", y.declare(0, 0), 2);
        BeckChoice z = E.of("land;river room 1;beck flow 1;beck flow 1 to 0;");
        E.due("declare(0, 0): alike, of less number", z.declare(0, 0), 1);

        E.says(10, "To DECLARE: who is pushed out (NONE). -11 to -14.");
        String text = "land;river room 1;river room 0;river room 1;river room 1;beck flow 0 to 0;beck flow 5;"
            + "beck flow 3 to 2;likes:if river=3 then 0 else flow end;takes:if river=3 then 1 else 4-flow+beck end;";
        // Beck 0 is in river 0, though it wouldn't; beck 1 would everywhere but in river 3; none can be in river 1.
        int[][] wrong = {{3, 0, -11}, {0, 4, -11}, {3, 4, -11}, {-1, 0, -11}, {0, -1, -11}, {0, 0, -12}, {2, 2, -12},
            {0, 1, -13}, {0, 3, -13}, {1, 1, -13}, {1, 3, -13}, {2, 1, -14}, {2, 0, -14}};
        for (int[] w : wrong) {
            BeckChoice u = E.of(text);
            refused("declare(" + w[0] + ", " + w[1] + ")", u, u.declare(w[0], w[1]), w[2], text);
        }
        for (int i : Edges.OUTSIDE) {
            E.due("declare(" + i + ", 0)", E.of(FULL).declare(i, 0), -11);
            E.due("declare(0, " + i + ")", E.of(FULL).declare(0, i), -11);
        }
        E.says(10, "Why not: 1 no such BECK, RIVER, number. 2 it is there (to DECLARE)");
        E.due("declare into its own full river", E.of("land;river room 1;beck flow 0 to 0;").declare(0, 0), -12);
        E.due("declare where it is, though it wouldn't",
            E.of("land;river room 1;beck flow 0 to 0;likes:0;").declare(0, 0), -12);
        E.says(10, "3 one WOULDN'T. 4 there is no ROOM, none is liked less.");
        E.due("declare: the beck wouldn't", E.of("land;river room 0;beck flow 0;likes:0;").declare(0, 0), -13);
        E.due("declare: the river wouldn't", E.of("land;river room 0;beck flow 0;takes:0;").declare(0, 0), -13);
        E.due("declare: both would, no room at all", E.of("land;river room 0;beck flow 0;").declare(0, 0), -14);
    }

    private static void leave() {
        E.says(11, "To LEAVE: it is NOWHERE.");
        BeckChoice last = E.of(FULL);
        last.leave(5);
        E.due("beck(5, 0)", last.beck(5, 0), NONE);
        E.due("river(2, 3)", last.river(2, 3), 0);
        E.due("river(1, 3): the others stay", last.river(1, 3), 12);
        E.says(11, "To LEAVE: from which RIVER. -11, -12.");
        BeckChoice x = E.of(FULL);
        int[] from = {0, 0, 1, 1, -12, 2};
        for (int b = 0; b < 6; b++) {
            E.due("leave(" + b + ")", x.leave(b), from[b]);
            E.due("beck(" + b + ", 0)", x.beck(b, 0), NONE);
        }
        E.due("count(6)", x.count(6), 5);
        for (int b : Edges.OUTSIDE) {
            BeckChoice y = E.of(FULL);
            refused("leave(" + b + ")", y, y.leave(b), -11, FULL);
        }
        BeckChoice y = E.of(FULL);
        refused("leave(6)", y, y.leave(6), -11, FULL);
        E.says(11, "it is NOWHERE (to LEAVE)");
        refused("leave(4)", y, y.leave(4), -12, FULL);
        E.due("leave(0)", y.leave(0), 0);
        E.due("leave(0) again", y.leave(0), -12);
    }

    private static void send() {
        E.says(12, "n GIFTS (1 to 9): how many it has sent then. -11, -12.");
        BeckChoice x = E.of(FULL);
        E.due("send(3, 5, 1)", x.send(3, 5, 1), 1);
        E.due("send(3, 5, 7)", x.send(3, 5, 7), 8);
        E.due("send(3, 5, 1)", x.send(3, 5, 1), 9);
        E.due("send(0, 0, 9)", x.send(0, 0, 9), 9);
        E.due("count(6)", x.count(6), 4);
        int[][] wrong = {{4, 0, 1}, {0, 6, 1}, {0, 0, 0}, {0, 0, 10}, {0, 0, -1}, {-1, 0, 1}, {0, -1, 1}};
        for (int[] w : wrong) {
            BeckChoice y = E.of(FULL);
            refused("send(" + w[0] + ", " + w[1] + ", " + w[2] + ")", y, y.send(w[0], w[1], w[2]), -11, FULL);
        }
        for (int i : Edges.OUTSIDE) {
            BeckChoice y = E.of(FULL);
            refused("send(" + i + ", 0, 1)", y, y.send(i, 0, 1), -11, FULL);
            refused("send(0, " + i + ", 1)", y, y.send(0, i, 1), -11, FULL);
            refused("send(0, 0, " + i + ")", y, y.send(0, 0, i), -11, FULL);
        }
        E.says(12, "GIFTS: a RIVER sends a BECK so many more (9 in all).");
        BeckChoice all = E.of(FULL);
        for (int i = 1; i <= 9; i++) {
            E.due("send(2, 3, 1) again", all.send(2, 3, 1), i);
        }
        E.due("send(2, 3, 1) of a tenth", all.send(2, 3, 1), -12);
        E.due("gifts(2, 3)", all.gifts(2, 3), 9);
        E.says(12, "there would be more than 9 GIFTS");
        E.due("send(3, 5, 1) of a tenth", x.send(3, 5, 1), -12);
        x.send(1, 1, 5);
        E.due("send(1, 1, 5)", x.send(1, 1, 5), -12);
        E.due("gifts(1, 1)", x.gifts(1, 1), 5);
        E.due("send(1, 1, 4)", x.send(1, 1, 4), 9);
        E.due("send(1, 1, 10): first no such number", x.send(1, 1, 10), -11);
        E.due("send(1, 2, 9): of each two", x.send(1, 2, 9), 9);
        E.due("count(6)", x.count(6), 7);
    }

    private static void rain() {
        E.says(13, "RAIN: the FLOW (0 to 9) it had. -11.");
        BeckChoice x = E.of(FULL);
        E.due("rain(2, 0)", x.rain(2, 0), 9);
        E.due("rain(2, 9)", x.rain(2, 9), 0);
        E.due("rain(2, 9) as it is", x.rain(2, 9), 9);
        E.due("rain(5, 1)", x.rain(5, 1), 0);
        E.due("beck(2, 0): it stays where it is", x.beck(2, 0), 1);
        E.due("count(6)", x.count(6), 4);
        BeckChoice y = E.of(FULL);
        refused("rain(6, 1)", y, y.rain(6, 1), -11, FULL);
        refused("rain(0, 10)", y, y.rain(0, 10), -11, FULL);
        for (int i : Edges.OUTSIDE) {
            refused("rain(" + i + ", 1)", y, y.rain(i, 1), -11, FULL);
            refused("rain(0, " + i + ")", y, y.rain(0, i), -11, FULL);
        }
        E.says(13, "RAIN: a BECK has another FLOW.");
        BeckChoice z = E.of("land;river room 1;beck flow 1 to 0;beck flow 2;likes:flow;takes:flow*flow;");
        z.rain(0, 0);
        E.due("likes(0, 0)", z.likes(0, 0), 0);
        E.due("takes(0, 0)", z.takes(0, 0), 0);
        E.due("beck(0, 4)", z.beck(0, 4), 0);
        E.due("beck(0, 0) where it wouldn't go", z.beck(0, 0), 0);
        E.due("beck(1, 1) of another", z.beck(1, 1), 2);
    }

    private static void room() {
        E.says(14, "A ROOM (0 to 6): how many are pushed out. -11.");
        String text = "land;river room 6;river room 1;" + Edges.times(5, "beck flow 0 to 0;") + "beck flow 0 to 1;"
            + "takes:1+(beck-2)*(beck-2);";
        BeckChoice x = E.of(text);
        E.due("room(0, 6) as it is", x.room(0, 6), 0);
        E.due("room(0, 5): as many as there are", x.room(0, 5), 0);
        E.due("river(0, 3)", x.river(0, 3), 31);
        E.due("count(6)", x.count(6), 2);
        E.says(14, "A ROOM: a RIVER has another one; while it has more BECKS, the one it likes least is pushed out");
        E.due("room(0, 4)", x.room(0, 4), 1);
        E.due("river(0, 3): beck 2 is out", x.river(0, 3), 27);
        E.due("room(0, 2): 3 ahead of 1, liked alike", x.room(0, 2), 2);
        E.due("river(0, 3)", x.river(0, 3), 17);
        E.due("room(0, 0)", x.room(0, 0), 2);
        E.due("river(0, 3)", x.river(0, 3), 0);
        E.due("beck(5, 0) of another river", x.beck(5, 0), 1);
        E.due("room(0, 6): none comes back", x.room(0, 6), 0);
        E.due("river(0, 3)", x.river(0, 3), 0);
        BeckChoice one = E.of(text);
        E.due("room(0, 1) of five", one.room(0, 1), 4);
        E.due("river(0, 3)", one.river(0, 3), 1);
        BeckChoice all = E.of("land;river room 6;" + Edges.times(6, "beck flow 0 to 0;"));
        E.due("room(0, 0) of six", all.room(0, 0), 6);
        E.due("count(2)", all.count(2), 63);
        E.says(14, "-11.");
        BeckChoice y = E.of(text);
        refused("room(2, 1)", y, y.room(2, 1), -11, text);
        refused("room(0, 7)", y, y.room(0, 7), -11, text);
        for (int i : Edges.OUTSIDE) {
            refused("room(" + i + ", 1)", y, y.room(i, 1), -11, text);
            refused("room(0, " + i + ")", y, y.room(0, i), -11, text);
        }
    }

    // ---- promises 15 to 18

    private static void undo() {
        E.says(15, "n calls (1 to 10) are UNDONE: how many still can be. -3: n, more than can be.");
        BeckChoice x = E.of(FULL);
        E.due("undo(1) of none", x.undo(1), -3);
        x.rain(0, 1);
        x.rain(0, 2);
        E.due("undo(3) of two", x.undo(3), -3);
        E.due("undo(0)", x.undo(0), -3);
        for (int n : Edges.OUTSIDE) {
            E.due("undo(" + n + ")", x.undo(n), -3);
        }
        E.due("beck(0, 1) stays", x.beck(0, 1), 2);
        E.due("count(6) stays", x.count(6), 2);
        E.due("undo(1)", x.undo(1), 1);
        E.due("beck(0, 1)", x.beck(0, 1), 1);
        E.due("undo(1)", x.undo(1), 0);
        E.due("beck(0, 1)", x.beck(0, 1), 5);
        E.due("undo(1) of none left", x.undo(1), -3);
        E.says(15, "the latest first, 10 at most (eldest are forgotten)");
        for (int i = 0; i < 10; i++) {
            x.rain(0, i);
            E.due("count(6)", x.count(6), i + 1);
        }
        x.rain(1, 9);
        E.due("count(6) of eleven", x.count(6), 10);
        x.rain(1, 8);
        E.due("count(6) of twelve", x.count(6), 10);
        E.due("undo(11)", x.undo(11), -3);
        E.due("undo(3)", x.undo(3), 7);
        E.due("beck(0, 1)", x.beck(0, 1), 8);
        E.due("beck(1, 1)", x.beck(1, 1), 4);
        for (int i = 0; i < 7; i++) {
            x.rain(1, i);
        }
        E.due("count(6), a second time around", x.count(6), 10);
        E.due("undo(10)", x.undo(10), 0);
        E.due("beck(1, 1)", x.beck(1, 1), 4);
        E.due("beck(0, 1)", x.beck(0, 1), 5);
        E.due("undo(1)", x.undo(1), -3);
        for (int i = 0; i < 25; i++) {
            x.rain(0, i % 10);
        }
        E.due("undo(10) of 25", x.undo(10), 0);
        E.due("beck(0, 1): the fifteenth stays", x.beck(0, 1), 4);
        undoneAsAWhole();
        undoneAlone();
    }

    /** Each kind of call brings back what was just ahead of it, and what is liked by that. */
    private static void undoneAlone() {
        E.says(15, "n calls (1 to 10) are UNDONE");
        String text = FULL + "likes:1+gifts+flow;takes:1+flow*2+gifts*beck;";
        for (int kind = 0; kind < 8; kind++) {
            BeckChoice x = E.of(text);
            BeckChoice y = E.of(text);
            for (BeckChoice z : new BeckChoice[] {x, y}) {
                z.rain(3, 7);
                z.room(1, 1);
                z.send(0, 4, 2);
            }
            E.due("deed of kind " + kind, deedOfKind(x, kind) > -10 ? 1 : 0, 1);
            E.due("count(6)", x.count(6), 4);
            E.due("undo(1)", x.undo(1), 3);
            E.same("behind undone kind " + kind, x, y);
        }
    }

    private static int deedOfKind(BeckChoice x, int kind) {
        Edges.tray(x, 1, 102, 309, 400, 999);
        switch (kind) {
            case 0: return x.declare(4, 3);
            case 1: return x.leave(0);
            case 2: return x.send(0, 4, 7);
            case 3: return x.rain(3, 0);
            case 4: return x.room(0, 1);
            case 5: return x.perform(1);
            case 6: return x.year(9, 40);
            default: return x.declare(2, 0);
        }
    }

    private static void undoneAsAWhole() {
        E.says(15, "Calls that did some can be UNDONE each as a whole");
        BeckChoice x = E.of(FULL);
        x.declare(0, 0);
        x.leave(4);
        x.send(0, 0, 10);
        x.rain(0, 10);
        x.room(0, 7);
        Edges.tray(x, 0, 499, 100);
        x.perform(0);
        x.judge(0, 0);
        x.image(0);
        E.due("count(6) of calls that did none", x.count(6), 0);
        Edges.tray(x, 0, 100, 101, 233, 305, 410, 999);
        E.due("perform(0)", x.perform(0), 5);
        E.due("count(6) of one call", x.count(6), 1);
        E.due("undo(1)", x.undo(1), 0);
        E.same("is as it was", x, E.of(FULL));
        E.due("year(3, 40)", x.year(3, 40) > 1 ? 1 : 0, 1);
        E.due("count(6) of one call", x.count(6), 1);
        E.due("undo(1)", x.undo(1), 0);
        E.same("is as it was", x, E.of(FULL));
        E.says(15, "where BECKS are, GIFTS, FLOWS, ROOMS.");
        String text = FULL + "likes:1+gifts;takes:1+flow;";
        BeckChoice y = E.of(text);
        y.leave(0);
        y.send(3, 0, 4);
        y.rain(0, 9);
        y.room(1, 0);
        y.declare(5, 3);
        y.declare(1, 3);
        y.declare(3, 3);
        E.due("declare(0, 3) pushes out", y.declare(0, 3), 5);
        E.due("undo(8)", y.undo(8), 0);
        E.same("is as it was", y, E.of(text));
        E.due("declare(4, 0) is done by what is liked then", y.declare(4, 0), -14);
    }

    private static void judge() {
        E.says(16, "-2: the TRAY, what; -6.");
        BeckChoice x = E.of(FULL);
        for (int what = 0; what < 4; what++) {
            E.due("judge(3, " + what + ") of a missing tray", x.judge(3, what), -6);
        }
        E.due("judge(3, 4): what comes first", x.judge(3, 4), -2);
        Edges.tray(x, 0, 100);
        E.due("judge(4, 0)", x.judge(4, 0), -2);
        E.due("judge(0, 4)", x.judge(0, 4), -2);
        for (int i : Edges.OUTSIDE) {
            E.due("judge(" + i + ", 0)", x.judge(i, 0), -2);
            E.due("judge(0, " + i + ")", x.judge(0, i), -2);
        }
        E.says(16, "what 0: the first place that can't be (NONE), 1: why (0)");
        judged(new long[0], NONE, 0);
        judged(new long[] {100}, NONE, 0);
        judged(new long[] {0}, 0, 2);
        judged(new long[] {104, 100}, 0, 2);
        judged(new long[] {500, 0}, 0, 1);
        judged(new long[] {100, 0, 0, 500}, 2, 2);
        judged(new long[] {422, 412, 402, 422, 420, 52}, 5, 4);
        judged(new long[] {200, 200, 200, 200, 200, 200, 200, 200, 200, 200}, 9, 2);
        long[] forty = new long[40];
        for (int i = 0; i < 40; i++) {
            forty[i] = 300 + i % 10;
        }
        judged(forty, NONE, 0);
        forty[39] = 500;
        judged(forty, 39, 1);
        BeckChoice w = E.of("land;river room 1;beck flow 1;likes:flow;");
        Edges.tray(w, 0, 300, 0);
        E.due("judge: it wouldn't", w.judge(0, 1), 3);
        E.due("judge: it wouldn't", w.judge(0, 0), 1);
        E.says(16, "2: who is NOWHERE then, as bits, 3: RIVERS that have more FLOW than they bear then, as bits.");
        BeckChoice y = E.of(FULL);
        Edges.tray(y, 1);
        E.due("judge(1, 2) of none", y.judge(1, 2), 16);
        E.due("judge(1, 3) of none: 9 of 9 is no flood, 11 of 10 is", y.judge(1, 3), 2);
        Edges.tray(y, 1, 306, 329, 338, 351);
        E.due("judge(1, 3)", y.judge(1, 3), 7);
        Edges.tray(y, 1, 306, 104, 329, 338, 351);
        E.due("judge(1, 3) till one can't be", y.judge(1, 3), 3);
        Edges.tray(y, 1, 100, 102, 43, 999, 101);
        E.due("judge(1, 2) till one can't be", y.judge(1, 2), 5);
        E.says(16, "DEEDS, judged as if done");
        E.same("stays", y, E.of(FULL));
        E.due("count(6)", y.count(6), 0);
    }

    private static void judged(long[] deeds, int place, int why) {
        BeckChoice x = E.of(FULL);
        Edges.tray(x, 2, deeds);
        String told = java.util.Arrays.toString(deeds);
        E.due("judge(2, 0) of " + told, x.judge(2, 0), place);
        E.due("judge(2, 1) of " + told, x.judge(2, 1), why);
        E.due("perform(2) of " + told, x.perform(2), place == NONE ? deeds.length : place);
    }

    private static void deedNumbers() {
        range("DEEDS in a TRAY: 0 to 99: BECK v by 10 DECLARES itself for RIVER v modulo 10", 0, 99);
        range("100 to 109: BECK v - 100 LEAVES", 100, 109);
        range("200 to 299: RIVER (v - 200) by 10 sends BECK v modulo 10 a GIFT", 200, 299);
        range("300 to 399: BECK (v - 300) by 10 has FLOW v modulo 10", 300, 399);
        range("400 to 499: RIVER (v - 400) by 10 has ROOM v modulo 10 (0 to 6)", 400, 499);
        E.says(17, "others: 1.");
        for (long v = 110; v <= 199; v++) {
            judged(new long[] {v}, 0, 1);
        }
        long[] far = {-1, -100, -400, 500, 501, 1000, 1L << 32, (1L << 32) + 100, 1L << 40, Long.MAX_VALUE, Long.MIN_VALUE,
            Integer.MAX_VALUE, Integer.MIN_VALUE, -(1L << 32)};
        for (long v : far) {
            judged(new long[] {v}, 0, 1);
        }
    }

    /** A deed in a tray does what the call for it does, or can't be for what that one answers. */
    private static void range(String sentence, int from, int to) {
        E.says(17, sentence);
        for (int v = from; v <= to; v++) {
            BeckChoice x = E.of(FULL);
            BeckChoice y = E.of(FULL);
            int answer = deed(y, v);
            Edges.tray(x, 0, v);
            E.due("judge of deed " + v, x.judge(0, 1), answer >= NONE ? 0 : -10 - answer);
            E.due("perform of deed " + v, x.perform(0), answer >= NONE ? 1 : 0);
            E.same("behind deed " + v, x, y);
            E.due("count(6) behind deed " + v, x.count(6), y.count(6));
        }
    }

    private static int deed(BeckChoice x, int v) {
        switch (v / 100) {
            case 0: return x.declare(v / 10, v % 10);
            case 1: return x.leave(v - 100);
            case 2: return x.send((v - 200) / 10, v % 10, 1);
            case 3: return x.rain((v - 300) / 10, v % 10);
            default: return x.room((v - 400) / 10, v % 10);
        }
    }

    private static void perform() {
        E.says(17, "They are done, till one can't be: how many.");
        BeckChoice x = E.of(FULL);
        Edges.tray(x, 0, 309, 319, 999, 329);
        E.due("perform(0)", x.perform(0), 2);
        E.due("beck(1, 1)", x.beck(1, 1), 9);
        E.due("beck(2, 1) behind the one that can't be", x.beck(2, 1), 9);
        Edges.tray(x, 0);
        E.due("perform(0) of none", x.perform(0), 0);
        Edges.tray(x, 0, 999, 300);
        E.due("perform(0), the first can't be", x.perform(0), 0);
        E.due("count(6)", x.count(6), 1);
        E.says(17, "-2; -6.");
        E.due("perform(1)", x.perform(1), -6);
        E.due("perform(3)", x.perform(3), -6);
        E.due("perform(4)", x.perform(4), -2);
        for (int i : Edges.OUTSIDE) {
            E.due("perform(" + i + ")", x.perform(i), -2);
        }
    }

    private static int seed;

    /** A DRAW as the document tells it, by numbers that don't wrap around by themselves. */
    private static int draw(int modulus) {
        seed = BigInteger.valueOf(1103515245).multiply(BigInteger.valueOf(seed)).add(BigInteger.valueOf(12345)).intValue();
        long unsigned = seed < 0 ? seed + (1L << 32) : seed;
        return (int) (unsigned / 65536 % modulus);
    }

    private static int drawnDeed(BeckChoice x) {
        int kind = draw(6);
        if (kind == 3) {
            return x.leave(draw(6));
        }
        int first = draw(kind == 4 ? 4 : 6);
        int second = draw(kind == 5 ? 10 : kind == 4 ? 6 : 4);
        return kind == 4 ? x.send(first, second, 1) : kind == 5 ? x.rain(first, second) : x.declare(first, second);
    }

    private static void year() {
        E.says(18, "A YEAR by a SEED (x, an int; a DRAW: x becomes 1103515245 x + 12345, it is x >>> 16)");
        int[] seeds = {0, 1, -1, 77, 12345, -98765432, 1 << 30, 1 << 31, Integer.MAX_VALUE, Integer.MIN_VALUE + 1};
        for (int s : seeds) {
            for (int times : new int[] {1, 2, 39, 40}) {
                sameYear(FULL, s, times);
            }
        }
        E.says(18, "as in a TRAY, if it can be.");
        for (int s : seeds) {
            sameYear("land;river room 1;river room 1;beck flow 1;beck flow 2;beck flow 3;", s, 40);
            sameYear("land;beck flow 1;", s, 40);
            sameYear("land;river room 1;", s, 40);
            sameYear("land;", s, 40);
        }
        E.says(18, "DRAW modulo 6: 0 to 2 BECK DRAW modulo 6 DECLARES itself for RIVER DRAW modulo 4; 3 BECK DRAW modulo 6"
            + " LEAVES; 4 RIVER DRAW modulo 4 sends BECK DRAW modulo 6 a GIFT; 5 BECK DRAW modulo 6 has FLOW DRAW modulo 10");
        int seen = 0;
        for (int s = 0; s < 60; s++) {
            seed = s;
            seen |= 1 << draw(6);
            sameYear(FULL, s, 1);
        }
        E.due("kinds seen", seen, 63);
        E.says(18, "A YEAR: how many could be.");
        sameYear(FULL + "likes:0;", 5, 40);
        sameYear(FULL + "likes:gifts;takes:flow;", 5, 40);
        E.says(18, "so many times (1 to 40)");
        BeckChoice x = E.of(FULL + "likes:0;");
        E.due("year(0, 40) where none would", x.year(0, 40) < 40 ? 1 : 0, 1);
        E.due("year(1, 1)", E.of(FULL).year(1, 1) >= 0 ? 1 : 0, 1);
        E.due("year(1, 40)", E.of(FULL).year(1, 40) > 0 ? 1 : 0, 1);
        E.says(18, "-3: how many times.");
        x = E.of(FULL);
        E.due("year(1, 0)", x.year(1, 0), -3);
        E.due("year(1, 41)", x.year(1, 41), -3);
        for (int times : Edges.OUTSIDE) {
            E.due("year(1, " + times + ")", x.year(1, times), -3);
        }
        E.same("stays", x, E.of(FULL));
        E.due("count(6)", x.count(6), 0);
    }

    private static void sameYear(String text, int s, int times) {
        BeckChoice x = E.of(text);
        BeckChoice y = E.of(text);
        seed = s;
        int done = 0;
        for (int i = 0; i < times; i++) {
            done += drawnDeed(y) >= NONE ? 1 : 0;
        }
        String call = "year(" + s + ", " + times + ")";
        E.due(call, x.year(s, times), done);
        E.same("behind " + call, x, y);
        E.due("count(6) behind " + call, x.count(6), done > 0 ? 1 : 0);
    }

    public static void main(String[] args) {
        laws();
        lookAtBeck();
        lookAtRiver();
        lookAtTwo();
        declare();
        leave();
        send();
        rain();
        room();
        undo();
        judge();
        deedNumbers();
        perform();
        year();
        E.end();
    }
}
