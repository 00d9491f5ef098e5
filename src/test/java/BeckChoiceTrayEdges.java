/** Boundary cases of trays, images, counts and refused calls: the last terms, promises 41 to 46. */
public final class BeckChoiceTrayEdges {
    private static final Edges E = new Edges();
    private static final int NONE = Edges.NONE;

    private static final String LAND = "land;river room 2 name 3 bears 4;river room 1 bears 6;beck flow 5 mark 2 to 0;"
        + "beck flow 3 dry 4 to 0;beck flow 6 to 1;beck flow 1;likes:1+gifts+river;takes:1+flow;";

    // ---- promises 41 to 43

    private static void numbers() {
        E.says(41, "TRAYS 0 to 3 are MISSING at first, or have 0 to 40 numbers");
        BeckChoice x = new BeckChoice();
        for (int tray = 0; tray < 4; tray++) {
            E.due("write(" + tray + ", 0, 1)", x.write(tray, 0, 1), -6);
        }
        for (int tray = 0; tray < 4; tray++) {
            E.due("numbers(" + tray + ", 0, 0)", x.numbers(tray, 0, 0), 0);
            E.due("write(" + tray + ", 0, 1) of no numbers", x.write(tray, 0, 1), -7);
            E.due("numbers(" + tray + ", 0, 40)", x.numbers(tray, 0, 40), 0);
            E.due("write(" + tray + ", 39, 1)", x.write(tray, 39, 1), 1);
            E.due("write(" + tray + ", 40, 1)", x.write(tray, 40, 1), -7);
        }
        E.says(41, "A TRAY has n numbers of a sort, all 0 (in place of another one): 0.");
        BeckChoice y = E.of(LAND);
        Edges.tray(y, 0, 100, 101, 102);
        E.due("judge(0, 0)", y.judge(0, 0), NONE);
        E.due("numbers(0, 3, 3)", y.numbers(0, 3, 3), 0);
        E.due("judge(0, 0) of three 0: beck 0 is there", y.judge(0, 0), 0);
        Edges.tray(y, 0, 100, 101, 102);
        E.due("numbers(0, 0, 1): fewer, of another sort", y.numbers(0, 0, 1), 0);
        E.due("write(0, 1, 1)", y.write(0, 1, 1), -7);
        E.due("write(0, 0, 300)", y.write(0, 0, 300), 44);
        E.due("numbers(0, 3, 3): more again", y.numbers(0, 3, 3), 0);
        y.write(0, 0, 100);
        E.due("judge(0, 0): behind it are 0", y.judge(0, 0), 2);
        E.due("count(6): no deed", y.count(6), 0);
        Edges.tray(y, 0, 100);
        y.numbers(1, 3, 1);
        E.due("judge(0, 0): another tray stays", y.judge(0, 0), NONE);
        E.says(41, "-2: no such TRAY, sort; -3, and the TRAY stays: n is below 0 or above 40.");
        Edges.tray(y, 0, 100, 101, 102);
        for (int n : new int[] {41, -1, 100, Integer.MAX_VALUE, Integer.MIN_VALUE}) {
            E.due("numbers(0, 0, " + n + ")", y.numbers(0, 0, n), -3);
            E.due("numbers(2, 0, " + n + ")", y.numbers(2, 0, n), -3);
            E.due("numbers(4, 0, " + n + "): the tray first", y.numbers(4, 0, n), -2);
            E.due("numbers(0, 4, " + n + "): the sort first", y.numbers(0, 4, n), -2);
        }
        E.due("numbers(4, 0, 1)", y.numbers(4, 0, 1), -2);
        E.due("numbers(0, 4, 1)", y.numbers(0, 4, 1), -2);
        for (int i : Edges.OUTSIDE) {
            E.due("numbers(" + i + ", 0, 1)", y.numbers(i, 0, 1), -2);
            E.due("numbers(0, " + i + ", 1)", y.numbers(0, i, 1), -2);
        }
        E.due("judge(0, 0): numbers stay", y.judge(0, 0), NONE);
        E.due("judge(0, 2): as many stay", y.judge(0, 2), 15);
        E.due("write(0, 2, 300): their sort stays", y.write(0, 2, 300), 300);
        E.due("write(2, 0, 1): it is missing still", y.write(2, 0, 1), -6);
    }

    private static void cut(int sort, long v, long want) {
        BeckChoice x = new BeckChoice();
        x.numbers(1, sort, 1);
        E.due("write(1, 0, " + v + ") of sort " + sort, x.write(1, 0, v), want);
    }

    private static void write() {
        E.says(42, "of 8 bits (sort 0), 16 (1), 32 (2), 64 (3)");
        for (int sort = 0; sort < 4; sort++) {
            int bits = 8 << sort;
            long top = 1L << (bits - 1);
            cut(sort, 0, 0);
            cut(sort, -1, -1);
            cut(sort, top - 1, top - 1);
            cut(sort, top, bits == 64 ? Long.MIN_VALUE : -top);
            cut(sort, -top, bits == 64 ? Long.MIN_VALUE : -top);
            cut(sort, -top - 1, top - 1);
            cut(sort, 2 * top, 0);
            cut(sort, 2 * top - 1, -1);
            cut(sort, 2 * top + 5, 5);
        }
        E.says(42, "Number i of a TRAY is v, cut to its sort: as it is there.");
        BeckChoice x = E.of(LAND);
        x.numbers(0, 0, 3);
        E.due("write(0, 1, 256 + 100)", x.write(0, 1, 356), 100);
        E.due("write(0, 0, 102)", x.write(0, 0, 102), 102);
        E.due("write(0, 2, 256 + 101)", x.write(0, 2, 357), 101);
        E.due("judge(0, 2): becks 2, 0, 1 leave", x.judge(0, 2), 15);
        x.write(0, 1, 104);
        E.due("judge(0, 0): the second is another one", x.judge(0, 0), 1);
        E.says(42, "-2: no such TRAY; -6; -7.");
        E.due("write(0, 3, 1)", x.write(0, 3, 1), -7);
        E.due("write(0, 40, 1)", x.write(0, 40, 1), -7);
        E.due("write(1, 40, 1): missing first", x.write(1, 40, 1), -6);
        E.due("write(4, 40, 1): the tray first", x.write(4, 40, 1), -2);
        for (int i : Edges.OUTSIDE) {
            E.due("write(0, " + i + ", 1)", x.write(0, i, 1), -7);
            E.due("write(" + i + ", 0, 1)", x.write(i, 0, 1), -2);
        }
        E.due("judge(0, 0) stays", x.judge(0, 0), 1);
    }

    private static final String CROSSED = "land;river room 1;river room 1;beck flow 1;beck flow 1;beck flow 1;"
        + "likes:if beck=2 then 0 else if beck=river then 2 else 1 end end;takes:if beck=river then 1 else 2 end;";

    private static void lists() {
        E.says(43, "RIVERS of the CHOICE BEST FOR BECKS (what 0), BEST FOR RIVERS (1), BECK by BECK (NONE: NOWHERE)");
        BeckChoice x = E.of(CROSSED);
        x.numbers(0, 0, 3);
        E.due("lists(0, 0)", x.lists(0, 0), 3);
        // Deeds 0, 1, -1: beck 0 declares itself for river 0, then for river 1, and the third is none.
        E.due("judge(0, 0) of 0, 1, NONE", x.judge(0, 0), 2);
        E.due("judge(0, 2) of 0, 1, NONE", x.judge(0, 2), 6);
        E.due("lists(0, 1)", x.lists(0, 1), 3);
        E.due("marks(0, 2) of 1, 0, NONE", x.marks(0, 2), 1023);
        x.perform(0);
        E.due("beck(0, 0) by deeds 1, 0, NONE", x.beck(0, 0), 0);
        E.due("lists(0, 0) wherever they are", x.lists(0, 0), 3);
        E.says(43, "come into a TRAY, as far as it has places: how many.");
        BeckChoice y = E.of(CROSSED);
        y.numbers(0, 3, 0);
        E.due("lists(0, 0) into no places", y.lists(0, 0), 0);
        y.numbers(0, 3, 1);
        y.write(0, 0, 99);
        E.due("lists(0, 1) into one place", y.lists(0, 1), 1);
        E.due("perform(0)", y.perform(0), 1);
        E.due("beck(0, 0)", y.beck(0, 0), 1);
        Edges.tray(y, 0, 99, 99, 99, 305, 99);
        E.due("lists(0, 0) into five places", y.lists(0, 0), 3);
        y.write(0, 2, 100);
        E.due("judge(0, 0): the fourth is as it was, the fifth too", y.judge(0, 0), 4);
        y.numbers(0, 3, 40);
        E.due("lists(0, 0) into forty places", y.lists(0, 0), 3);
        E.due("lists(0, 0) without becks", emptyLists(), 0);
        E.says(43, "-2: the TRAY, what; -6.");
        E.due("lists(3, 0)", y.lists(3, 0), -6);
        E.due("lists(3, 2): what first", y.lists(3, 2), -2);
        E.due("lists(4, 0)", y.lists(4, 0), -2);
        E.due("lists(0, 2)", y.lists(0, 2), -2);
        for (int i : Edges.OUTSIDE) {
            E.due("lists(" + i + ", 0)", y.lists(i, 0), -2);
            E.due("lists(0, " + i + ")", y.lists(0, i), -2);
        }
    }

    private static int emptyLists() {
        BeckChoice x = new BeckChoice();
        x.numbers(0, 0, 40);
        return x.lists(0, 0);
    }

    // ---- promises 44 to 46

    private static void images() {
        E.says(44, "An IMAGE is made: 0. -2.");
        BeckChoice x = E.of(LAND);
        E.due("image(0)", x.image(0), 0);
        E.due("image(1)", x.image(1), 0);
        E.due("image(2)", x.image(2), -2);
        for (int i : Edges.OUTSIDE) {
            E.due("image(" + i + ")", x.image(i), -2);
        }
        x.rain(0, 0);
        E.due("image(0) in place of one", x.image(0), 0);
        E.due("count(6): it is no deed", x.count(6), 1);
        E.due("undo(1) behind it", x.undo(1), 0);
        E.due("beck(0, 1)", x.beck(0, 1), 5);
        x.restore(0);
        E.due("beck(0, 1) of the later one", x.beck(0, 1), 0);
        x.restore(1);
        E.due("beck(0, 1) of the other one", x.beck(0, 1), 5);
        E.due("restore(0) of a new object's image", emptyImage(), 0);

        E.says(45, "All that is in an IMAGE is as it was: 0. -2; -5: none was made.");
        BeckChoice y = E.of(LAND);
        E.due("restore(0)", y.restore(0), -5);
        E.due("restore(1)", y.restore(1), -5);
        E.due("restore(2): there is none such", y.restore(2), -2);
        for (int i : Edges.OUTSIDE) {
            E.due("restore(" + i + ")", y.restore(i), -2);
        }
        y.image(1);
        E.due("restore(0): the other one was made", y.restore(0), -5);
        changeAll(y);
        Edges.land(y, "land;beck flow 1;beck flow 2;river room 6;likes:7;takes:8;");
        changeAll(y);
        E.due("restore(1)", y.restore(1), 0);
        BeckChoice z = E.of(LAND);
        E.same("is as it was", y, z);
        for (int what = 0; what <= 6; what++) {
            E.due("count(" + what + ")", y.count(what), z.count(what));
        }
        E.due("count(8)", y.count(8), z.count(8));
        y.send(1, 3, 4);
        z.send(1, 3, 4);
        E.same("goes on by the same laws", y, z);
        E.due("restore(1) again", y.restore(1), 0);
        E.due("gifts(1, 3): the image stays as it was", y.gifts(1, 3), 0);
        imageParts();
    }

    private static int emptyImage() {
        BeckChoice x = new BeckChoice();
        x.image(0);
        Edges.land(x, LAND);
        x.restore(0);
        return x.count(0) + x.count(1) + x.count(8);
    }

    private static void changeAll(BeckChoice x) {
        x.leave(0);
        x.send(0, 1, 9);
        x.rain(1, 9);
        x.room(0, 0);
        x.declare(1, 1);
    }

    private static void imageParts() {
        E.says(45, "IMAGES 0 to 1: THE LAND and what a call could bring back by UNDOING; nothing can be UNDONE behind (none at first)");
        BeckChoice x = E.of(LAND);
        changeAll(x);
        BeckChoice y = E.of(LAND);
        changeAll(y);
        x.image(0);
        E.due("count(6) behind image()", x.count(6), 5);
        x.undo(5);
        x.rain(0, 1);
        Edges.tray(x, 2, 100);
        Edges.feed(x, "land;");
        E.due("restore(0)", x.restore(0), 0);
        E.same("with gifts, flows, rooms", x, y);
        E.due("count(6) behind restore()", x.count(6), 0);
        E.due("undo(1) behind restore()", x.undo(1), -3);
        E.due("count(7): the tape stays", x.count(7), 20);
        E.due("write(2, 0, 1): a tray stays", x.write(2, 0, 1), 1);
        x.rain(0, 3);
        E.due("undo(1) of what is done behind it", x.undo(1), 0);
        E.same("as the image", x, y);
    }

    private static void counts(String what, BeckChoice x, int... want) {
        for (int i = 0; i < want.length; i++) {
            E.due("count(" + i + ") " + what, x.count(i), want[i]);
        }
    }

    private static void count() {
        E.says(46, "0 BECKS, 1 RIVERS, 2 who is NOWHERE, as bits, 3 ROOMS together, 4 FLOWS together, 5 GIFTS together, 6 calls"
            + " that can be UNDONE, 7 bytes on THE TAPE, 8 LINES.");
        BeckChoice x = new BeckChoice();
        counts("of a new object", x, 0, 0, 0, 0, 0, 0, 0, 0, 0);
        Edges.land(x, LAND);
        counts("of a land", x, 4, 2, 8, 3, 15, 0, 0, 0, 9);
        x.leave(0);
        x.room(0, 6);
        x.rain(3, 9);
        x.send(0, 0, 9);
        x.send(1, 3, 2);
        Edges.feed(x, "land;");
        counts("behind deeds", x, 4, 2, 9, 7, 23, 11, 5, 20, 9);
        String most = "land;" + Edges.times(4, "river room 6;") + Edges.times(6, "beck flow 9;");
        BeckChoice y = E.of(most);
        for (int b = 0; b < 6; b++) {
            for (int r = 0; r < 4; r++) {
                y.send(r, b, 9);
            }
        }
        Edges.feed(y, Edges.times(900, " "));
        counts("of the most", y, 6, 4, 63, 24, 54, 216, 10, 900, 11);
        // A land with fewer has nothing of the one ahead.
        y.land(0);
        counts("behind a fault", y, 6, 4, 63, 24, 54, 216, 10, 0, 11);
        Edges.land(y, "land;river room 1;beck flow 2;");
        counts("of a lesser land", y, 1, 1, 1, 1, 2, 0, 0, 0, 3);
        Edges.land(y, "land;");
        counts("of an empty land", y, 0, 0, 0, 0, 0, 0, 0, 0, 1);
        E.says(46, "NONE for others.");
        E.due("count(9)", x.count(9), NONE);
        for (int what : Edges.OUTSIDE) {
            E.due("count(" + what + ")", x.count(what), NONE);
        }
    }

    // ---- refused calls

    private static void refused() {
        E.says(41, "Refused calls answer by a code and change nothing");
        BeckChoice x = E.of(LAND);
        BeckChoice y = E.of(LAND);
        for (BeckChoice z : new BeckChoice[] {x, y}) {
            z.leave(0);
            Edges.tray(z, 0, 100, 101);
            z.image(1);
        }
        for (int i : Edges.OUTSIDE) {
            refuseAll(x, i);
        }
        E.same("behind refused calls", x, y);
        for (int what = 0; what <= 8; what++) {
            E.due("count(" + what + ") behind refused calls", x.count(what), y.count(what));
        }
        E.due("fault(0)", x.fault(0), 0);
        E.due("judge(0, 0)", x.judge(0, 0), y.judge(0, 0));
        E.due("judge(1, 0)", x.judge(1, 0), -6);
        E.due("restore(0)", x.restore(0), -5);
        E.due("undo(1)", x.undo(1), 0);
        E.same("behind undo(1)", x, E.of(LAND));
        E.says(41, "(Of several that which the call tells first; all these ahead of NONE.)");
        E.due("numbers(4, 4, 41)", x.numbers(4, 4, 41), -2);
        E.due("write(4, 99, 1)", x.write(4, 99, 1), -2);
        E.due("write(1, 99, 1)", x.write(1, 99, 1), -6);
        E.due("judge(1, 4)", x.judge(1, 4), -2);
        E.due("lists(1, 2)", x.lists(1, 2), -2);
        E.due("marks(1, 9)", x.marks(1, 9), -2);
        E.due("woos(9, 100, 1)", x.woos(9, 100, 1), -2);
        E.due("woos(0, 100, 0), which none could do", x.woos(0, 100, 0), -3);
        E.due("ask(1, 0) without marks", E.of("land;beck flow 1;").ask(1, 0), -6);
        E.due("choice(-1) of one", x.choice(-1), -3);
        E.due("restore(2)", x.restore(2), -2);
        E.due("beck(9, 9)", x.beck(9, 9), -2);
        E.due("river(9, 9)", x.river(9, 9), -2);
        E.due("flooding(9, 9)", x.flooding(9, 9), -2);
        E.due("staying(9, 9)", x.staying(9, 9), -2);
    }

    /** Each code at least once, by a call that can answer it. */
    private static void codes() {
        BeckChoice x = E.of(LAND);
        Edges.tray(x, 0, 1, 2, 3);
        E.says(41, "-2 there is none such; -3 a number can't be; -4 too many; -5 it can't be now; -6 a TRAY is MISSING; -7 it"
            + " has no such number");
        E.due("beck(4, 0)", x.beck(4, 0), -2);
        E.due("land(1)", x.land(1), -3);
        E.due("marks(0, 0) of fewer", x.marks(0, 0), -4);
        Edges.tray(x, 0, 1, 2, 3, 4, 5);
        E.due("marks(0, 0) of more", x.marks(0, 0), -4);
        E.due("restore(0)", x.restore(0), -5);
        E.due("perform(1)", x.perform(1), -6);
        E.due("write(0, 5, 0)", x.write(0, 5, 0), -7);
        E.says(41, "-11 to -14 why not (1 to 4)");
        E.due("leave(4)", x.leave(4), -11);
        E.due("leave(3)", x.leave(3), -12);
        x.room(1, 0);
        E.due("declare(0, 1)", x.declare(0, 1), -14);
        E.due("declare(0, 0), one wouldn't", E.of("land;river room 1;beck flow 1;likes:0;").declare(0, 0), -13);
        E.says(41, "An object is used for at most 512 calls after it has been made");
        BeckChoice y = new BeckChoice();
        Edges.land(y, LAND);
        for (int i = 0; i < 500; i++) {
            y.rain(0, i % 10);
        }
        E.due("beck(0, 1) behind some 500 calls", y.beck(0, 1), 9);
        E.due("undo(10)", y.undo(10), 0);
        E.due("beck(0, 1)", y.beck(0, 1), 9);
    }

    private static void refuseAll(BeckChoice x, int i) {
        x.land(i < 0 ? i : 1);
        x.declare(i, i);
        x.leave(i);
        x.send(0, 0, i);
        x.send(i, 0, 1);
        x.rain(0, i);
        x.rain(i, 0);
        x.room(0, i);
        x.room(i, 0);
        x.undo(i);
        x.perform(i);
        x.perform(1);
        x.year(1, i);
        x.numbers(0, 0, i);
        x.numbers(1, i, 1);
        x.numbers(i, 0, 1);
        x.write(0, i, 7);
        x.write(1, 0, 7);
        x.lists(0, i);
        x.lists(i, 0);
        x.image(i);
        x.restore(i);
        x.restore(0);
    }

    public static void main(String[] args) {
        numbers();
        write();
        lists();
        images();
        count();
        refused();
        codes();
        E.end();
    }
}
