/** Boundary cases of what would be: the terms of lies, turning off, answers, chance; promises 30 to 40. */
public final class BeckChoiceSupposedEdges {
    private static final Edges E = new Edges();
    private static final int NONE = Edges.NONE;

    /** Marks 0, 1, 2 like names 0, 1, 2 in turn from their own on; rivers the reverse: three choices hold. */
    private static final String ROUND = "if name=mark then 3 else if name=mark+1 or name+2=mark then 2 else 1 end end";
    private static final String THREE = "land;river room 1;river room 1 name 1;river room 1 name 2;beck flow 1;"
        + "beck flow 2 mark 1;beck flow 4 mark 2;likes:" + ROUND + ";takes:4-" + ROUND + ";";
    /** The same with rivers 1 to 3 and becks 3 to 5. */
    private static final String LATE = "land;river room 0 name 9;river room 1;river room 1 name 1;river room 1 name 2;"
        + "beck flow 9 mark 8;beck flow 9 mark 8;beck flow 9 mark 8;beck flow 1;beck flow 2 mark 1;beck flow 4 mark 2;"
        + "likes:if mark=8 then 0 else " + ROUND + " end;takes:4-" + ROUND + ";";
    private static final String SIX = Edges.times(6, "beck flow 9;");

    // ---- promises 30 to 32

    private static void lies() {
        E.says(30, "The RIVER that a BECK likes best of those in which it would be by a LIE by which it GAINS. NONE: by none;"
            + " -2.");
        for (int b = 0; b < 3; b++) {
            E.due("gains(" + b + ")", E.of(THREE).gains(b), b);
            E.due("gains(" + (b + 3) + ")", E.of(LATE).gains(b + 3), b + 1);
            E.due("gains(" + b + ") of those that would nowhere", E.of(LATE).gains(b), NONE);
        }
        String plain = "land;river room 1;river room 1;beck flow 1;beck flow 1;beck flow 1;";
        for (int b = 0; b < 3; b++) {
            E.due("gains(" + b + ") where one choice holds", E.of(plain).gains(b), NONE);
        }
        E.says(30, "It GAINS, if it is where it likes it better than by telling what it likes.");
        E.due("gains(0) where it wouldn't be", E.of("land;river room 1;beck flow 1;likes:0;").gains(0), NONE);
        E.due("gains(0) where it wouldn't be, with others",
            E.of("land;river room 1;river room 1;beck flow 1;likes:river-2;").gains(0), NONE);
        E.due("gains(0) where the river wouldn't", E.of("land;river room 1;beck flow 1;takes:0;").gains(0), NONE);
        E.due("gains(0) where it is best off", E.of("land;river room 1;beck flow 1;").gains(0), NONE);
        E.says(30, "A LIE: a BECK tells another order of RIVERS (some of them, any order, or none) than it likes, and WOULD just"
            + " these, all others as they are");
        // To tell none, or what it likes, or rivers that wouldn't, brings beck 0 nowhere else than where it is.
        String kept = "land;river room 1;river room 1;beck flow 1;beck flow 2;likes:2-river;takes:flow*(1-river*beck);";
        E.due("forRivers(0)", E.of(kept).forRivers(0), 1);
        E.due("gains(0)", E.of(kept).gains(0), NONE);
        E.due("gains(1)", E.of(kept).gains(1), NONE);
        E.says(30, "then the CHOICE BEST FOR RIVERS (by what is told) is done");
        E.due("forBecks(0): best off by the other choice", E.of(THREE).forBecks(0), 0);
        E.due("forRivers(0)", E.of(THREE).forRivers(0), 2);
        E.due("gains(0)", E.of(THREE).gains(0), 0);
        E.due("count(2): nothing is done", E.of(THREE).count(2), 7);
        E.says(30, "NONE: by none; -2.");
        E.due("gains(3)", E.of(THREE).gains(3), -2);
        E.due("gains(6)", E.of(LATE).gains(6), -2);
        for (int b : Edges.OUTSIDE) {
            E.due("gains(" + b + ")", E.of(THREE).gains(b), -2);
        }
        E.says(31, "The first LIE by which it is there (told RIVERS and 1 as digits of base 5, the best one the lowest; the"
            + " least number). NONE: it can't; -2.");
        for (int b = 0; b < 3; b++) {
            E.due("lie(" + b + ")", E.of(THREE).lie(b), b + 1);
            E.due("lie(" + (b + 3) + ")", E.of(LATE).lie(b + 3), b + 2);
            E.due("lie(" + b + ") of those that would nowhere", E.of(LATE).lie(b), NONE);
            E.due("lie(" + b + ") where one choice holds", E.of(plain).lie(b), NONE);
        }
        E.due("lie(3)", E.of(THREE).lie(3), -2);
        for (int b : Edges.OUTSIDE) {
            E.due("lie(" + b + ")", E.of(THREE).lie(b), -2);
        }
        E.says(32, "BECKS that could GAIN, as bits.");
        E.due("liars()", E.of(THREE).liars(), 7);
        E.due("liars() of the last three", E.of(LATE).liars(), 56);
        E.due("liars() where one choice holds", E.of(plain).liars(), 0);
        E.due("liars() without rivers", E.of("land;beck flow 1;").liars(), 0);
    }

    // ---- promise 33

    private static void woos(String text, int enough, int... want) {
        BeckChoice x = E.of(text);
        E.due("woos(0, " + enough + ", 0) of " + text, x.woos(0, enough, 0), want[0]);
        for (int b = 0; b < x.count(0); b++) {
            E.due("woos(0, " + enough + ", 1" + b + ") of " + text, x.woos(0, enough, 10 + b),
                want[0] == NONE ? NONE : want[b + 1]);
        }
        E.due("count(5): none are sent", x.count(5), 0);
    }

    private static void woos() {
        E.says(33, "GIFTS more from a RIVER (to each BECK 9 in all at most, 9 more together)");
        woos("land;river room 1;beck flow 4;likes:gifts-8;", 4, 9, 9);
        woos("land;river room 1;beck flow 4;likes:gifts-9;", 4, NONE);
        BeckChoice x = E.of("land;river room 1;beck flow 4;likes:gifts-8;");
        x.send(0, 0, 8);
        E.due("woos(0, 4, 0) by a ninth", x.woos(0, 4, 0), 1);
        E.due("woos(0, 4, 10) by a ninth", x.woos(0, 4, 10), 1);
        BeckChoice y = E.of("land;river room 1;beck flow 4;likes:gifts-9;");
        y.send(0, 0, 8);
        E.due("woos(0, 4, 0) by a tenth", y.woos(0, 4, 0), NONE);
        y.send(0, 0, 1);
        E.due("woos(0, 4, 0) with nine sent", y.woos(0, 4, 0), NONE);
        E.due("woos(0, 0, 0) with nine sent", y.woos(0, 0, 0), 0);
        woos("land;river room 2;beck flow 4;beck flow 4;likes:gifts-3-beck;", 8, 9, 4, 5);
        woos("land;river room 2;beck flow 4;beck flow 4;likes:gifts-4;", 8, NONE);
        woos("land;river room 6;" + SIX + "likes:gifts;", 54, 6, 1, 1, 1, 1, 1, 1);
        woos("land;river room 6;" + SIX + "likes:gifts-1;", 36, 8, 0, 0, 2, 2, 2, 2);
        woos("land;river room 6;" + SIX + "likes:gifts-1;", 37, NONE);

        E.says(33, "by which in the CHOICE BEST FOR BECKS it has FLOW enough (0 to 99)");
        woos("land;river room 6;", 0, 0);
        woos("land;river room 0;beck flow 4;", 0, 0, 0);
        woos("land;river room 0;beck flow 4;", 1, NONE);
        woos("land;river room 6;" + SIX, 54, 0, 0, 0, 0, 0, 0, 0);
        woos("land;river room 6;" + SIX, 55, NONE);
        woos("land;river room 6;" + SIX, 99, NONE);
        woos("land;river room 5;" + SIX, 46, NONE);
        woos("land;river room 1;beck flow 4;", 4, 0, 0);
        woos("land;river room 1;beck flow 4;", 5, NONE);
        woos("land;river room 1;beck flow 4 to 0;likes:gifts-1;", 4, 2, 2);
        woos(THREE, 1, 0, 0, 0, 0);
        woos(THREE, 2, NONE);
        woos("land;river room 1;beck flow 4;takes:gifts-2;", 4, 3, 3);

        E.says(33, "the least together, of like ones the first by BECKS (less for BECK 0 first)");
        woos("land;river room 1;beck flow 4;beck flow 4;likes:gifts-4;", 4, 5, 0, 5);
        woos("land;river room 1;beck flow 4;beck flow 4;likes:gifts-beck;", 4, 1, 1, 0);
        woos("land;river room 2;beck flow 4;beck flow 4;beck flow 4;likes:gifts-1;", 8, 4, 0, 2, 2);
        woos("land;river room 2;beck flow 5;beck flow 4;beck flow 4;likes:gifts-1;", 9, 4, 2, 0, 2);
        woos("land;river room 1;beck flow 4;beck flow 5;likes:if gifts=3 then 1 else 0 end;", 4, 3, 0, 3);
        // By gifts the river likes beck 1 better than beck 0, which likes it as before.
        woos("land;river room 1;beck flow 1;beck flow 5;takes:if beck=0 then 3 else 1+gifts end;", 5, 3, 0, 3);
        woos("land;river room 1;beck flow 5;beck flow 1;takes:if beck=1 then 3 else 1+gifts end;", 5, 2, 2, 0);
        // What was looked for ahead doesn't count, when there are gifts.
        BeckChoice again = E.of("land;river room 1;river room 1;beck flow 4;"
            + "likes:if river=1 then 5 else if gifts=7 then 9 else 1 end end;");
        E.due("woos(0, 4, 0)", again.woos(0, 4, 0), 7);
        again.send(0, 0, 8);
        E.due("woos(0, 4, 0) behind eight", again.woos(0, 4, 0), NONE);
        // Against another river: alike is enough for the less number, not for the greater one.
        woos("land;river room 1;river room 1;beck flow 4;likes:if river=0 then 1+gifts else 3 end;", 4, 2, 2);
        BeckChoice z = E.of("land;river room 1;river room 1;beck flow 4;likes:if river=1 then 1+gifts else 3 end;");
        E.due("woos(1, 4, 0)", z.woos(1, 4, 0), 3);
        wooWrongly();
    }

    private static void wooWrongly() {
        E.says(33, "what 0: how many, 10 + b: to BECK b. NONE: none do; -2: the RIVER, what (10 and a BECK); -3: enough.");
        BeckChoice x = E.of("land;river room 1;river room 1;beck flow 4;beck flow 4;");
        E.due("woos(1, 4, 11)", x.woos(1, 4, 11), 0);
        E.due("woos(2, 4, 0)", x.woos(2, 4, 0), -2);
        for (int what = 1; what < 10; what++) {
            E.due("woos(0, 4, " + what + ")", x.woos(0, 4, what), -2);
        }
        E.due("woos(0, 4, 12)", x.woos(0, 4, 12), -2);
        E.due("woos(0, 4, 15)", x.woos(0, 4, 15), -2);
        E.due("woos(0, 4, 16)", x.woos(0, 4, 16), -2);
        E.due("woos(0, 0, 10) without becks", E.of("land;river room 1;").woos(0, 0, 10), -2);
        for (int i : Edges.OUTSIDE) {
            E.due("woos(" + i + ", 4, 0)", x.woos(i, 4, 0), -2);
            E.due("woos(0, 4, " + i + ")", x.woos(0, 4, i), -2);
            E.due("woos(0, " + i + ", 0)", x.woos(0, i, 0), -3);
            E.due("woos(2, " + i + ", 0): the river first", x.woos(2, i, 0), -2);
            E.due("woos(0, " + i + ", 12): what first", x.woos(0, i, 12), -2);
        }
        E.due("woos(0, 99, 0)", x.woos(0, 99, 0), NONE);
        E.due("woos(0, 99, 11)", x.woos(0, 99, 11), NONE);
    }

    // ---- promises 34 to 36

    private static void floods() {
        E.says(34, "RIVERS that have more FLOW than they bear, as bits.");
        BeckChoice x = E.of("land;river room 2 bears 9;river room 1 bears 0;river room 1 bears 0;river room 1 bears 3;"
            + "beck flow 5 to 0;beck flow 4 to 0;beck flow 0 to 1;beck flow 1 to 2;beck flow 4 to 3;");
        E.due("floods()", x.floods(), 12);
        x.rain(4, 3);
        E.due("floods() at what it bears", x.floods(), 4);
        x.rain(0, 6);
        E.due("floods() at one more", x.floods(), 5);
        x.leave(3);
        x.leave(0);
        E.due("floods() of none", x.floods(), 0);
        String six = SIX.replace(";", " to 0;");
        E.due("floods() of 54 by 54", E.of("land;river room 6 bears 54;" + six).floods(), 0);
        E.due("floods() of 54 by 53", E.of("land;river room 6 bears 53;" + six).floods(), 1);
        E.due("floods() untold", E.of("land;river room 6;" + six).floods(), 0);

        E.says(35, "so that no RIVER has more FLOW than it bears: the fewest, of like ones the least set as bits.");
        off("land;river room 6 bears 54;" + six, 0, 0);
        off("land;river room 6 bears 53;" + six, 1, 1);
        off("land;river room 6 bears 9;" + six, 5, 31);
        off("land;river room 6 bears 8;" + six, 6, 63);
        off("land;river room 3 bears 7;beck flow 1 to 0;beck flow 2 to 0;beck flow 6 to 0;", 1, 2);
        off("land;river room 3 bears 6;beck flow 1 to 0;beck flow 2 to 0;beck flow 6 to 0;", 1, 4);
        off("land;river room 3 bears 0;beck flow 0 to 0;beck flow 2 to 0;beck flow 6 to 0;", 2, 6);
        off("land;river room 3 bears 0;river room 3 bears 0;beck flow 9;beck flow 2 to 1;beck flow 6 to 0;", 2, 6);
        off("land;river room 3 bears 0;beck flow 9;", 0, 0);
        E.says(35, "To turn OFF: BECKS leave, nothing else being done");
        // The room that would be free then is for none of those that are nowhere.
        off("land;river room 1 bears 3;beck flow 1;beck flow 9 to 0;", 1, 2);
        BeckChoice y = E.of("land;river room 1 bears 3;beck flow 9 to 0;");
        y.turnOff(1);
        E.due("beck(0, 0)", y.beck(0, 0), 0);
        E.says(35, "To turn OFF, what 0: how many, 1: which, as bits. -2: what.");
        E.due("turnOff(2)", y.turnOff(2), -2);
        for (int what : Edges.OUTSIDE) {
            E.due("turnOff(" + what + ")", y.turnOff(what), -2);
        }
        E.due("turnOff(0)", y.turnOff(0), 1);
        E.due("turnOff(1)", y.turnOff(1), 1);

        E.says(36, "The least that a RIVER would have to bear so that it wouldn't flood in any CHOICE that HOLDS. -2.");
        BeckChoice z = E.of(THREE);
        for (int r = 0; r < 3; r++) {
            E.due("bearing(" + r + ")", z.bearing(r), 4);
        }
        E.due("bearing(3)", z.bearing(3), -2);
        for (int r : Edges.OUTSIDE) {
            E.due("bearing(" + r + ")", z.bearing(r), -2);
        }
        E.due("bearing(0) of all", E.of("land;river room 6 bears 0;" + SIX).bearing(0), 54);
        E.due("bearing(0) of none", E.of("land;river room 6;" + six + "likes:0;").bearing(0), 0);
        E.due("bearing(0) without becks", E.of("land;river room 6;").bearing(0), 0);
        E.due("bearing(0) of no flow", E.of("land;river room 6;beck flow 0;").bearing(0), 0);
        z.rain(2, 0);
        E.due("bearing(0) behind rain", z.bearing(0), 2);
    }

    private static void off(String text, int many, int which) {
        BeckChoice x = E.of(text);
        E.due("turnOff(0) of " + text, x.turnOff(0), many);
        E.due("turnOff(1) of " + text, x.turnOff(1), which);
    }

    // ---- promises 37 and 38

    private static int marks(String text, int b, long... answers) {
        BeckChoice x = E.of(text);
        Edges.tray(x, 0, answers);
        int got = x.marks(0, b);
        E.due("ask(0, " + b + ") as marks()", x.ask(0, b) < NONE ? x.ask(0, b) : 0, got < NONE ? got : 0);
        return got;
    }

    private static void marks() {
        String one = "land;river room 1;beck flow 1 mark 5;";
        E.says(37, "MARKS 0 to 9 of a BECK by which this CHOICE HOLDS.");
        E.due("marks: there by all", marks(one, 0, 0), 1023);
        E.due("marks: nowhere by none", marks(one, 0, NONE), 0);
        E.due("marks: there by 9", marks(one + "likes:mark-8;", 0, 0), 512);
        E.due("marks: nowhere by 0 to 8", marks(one + "likes:mark-8;", 0, NONE), 511);
        E.due("marks: there by 0", marks(one + "likes:1-mark;", 0, 0), 1);
        E.due("marks: nowhere by 1 to 9", marks(one + "likes:1-mark;", 0, NONE), 1022);
        E.due("marks: there as the river would", marks(one + "takes:mark-4;", 0, 0), 992);
        E.says(37, "ANSWERS: MARKS, as bits.");
        // What the other beck has stays as it is.
        String two = "land;river room 1;beck flow 1 mark 3;beck flow 1 mark 6;takes:1+mark;";
        E.due("marks of beck 0 there", marks(two, 0, 0, NONE), 1023 - 63);
        E.due("marks of beck 1 there", marks(two, 1, NONE, 0), 1023 - 15);
        E.due("marks of beck 1 nowhere", marks(two, 1, 0, NONE), 15);
        BeckChoice x = E.of(two);
        Edges.tray(x, 0, 0, NONE);
        x.marks(0, 0);
        E.due("beck(0, 2) stays", x.beck(0, 2), 3);
        E.due("takes(0, 0) stays", x.takes(0, 0), 4);
        E.due("marks without rivers", marks("land;beck flow 1;", 0, NONE), 1023);

        E.says(37, "-2: the TRAY, the BECK; -6; -4: not as many numbers as BECKS; -3: one is no RIVER nor NONE, more than the"
            + " ROOM of one.");
        BeckChoice y = E.of(two);
        E.due("marks(3, 0)", y.marks(3, 0), -6);
        E.due("marks(3, 2): the beck first", y.marks(3, 2), -2);
        E.due("marks(4, 0)", y.marks(4, 0), -2);
        Edges.tray(y, 0, 0, NONE);
        E.due("marks(0, 2)", y.marks(0, 2), -2);
        for (int i : Edges.OUTSIDE) {
            E.due("marks(" + i + ", 0)", y.marks(i, 0), -2);
            E.due("marks(0, " + i + ")", y.marks(0, i), -2);
            E.due("ask(" + i + ", 0)", y.ask(i, 0), -2);
            E.due("ask(0, " + i + ")", y.ask(0, i), -2);
        }
        E.due("marks of no numbers", marks(two, 0), -4);
        E.due("marks of one number", marks(two, 0, 0), -4);
        E.due("marks of three numbers", marks(two, 0, 0, NONE, NONE), -4);
        E.due("marks of one that is no river: first how many", marks(two, 0, 7), -4);
        E.due("marks of a river too many", marks(two, 0, 1, NONE), -3);
        E.due("marks of the last one", marks(two, 0, NONE, 1), -3);
        E.due("marks of less than NONE", marks(two, 0, NONE, -2), -3);
        E.due("marks of no int", marks(two, 0, NONE, 1L << 32), -3);
        E.due("marks of no int", marks(two, 0, (1L << 32) - 1, 0), -3);
        E.due("marks of the least long", marks(two, 0, Long.MIN_VALUE, 0), -3);
        E.due("marks of two for one", marks(two, 0, 0, 0), -3);
        E.due("marks of one for none", marks(two.replace("room 1", "room 0"), 0, 0, NONE), -3);
        E.due("marks of two for two", marks(two.replace("room 1", "room 2"), 0, 0, 0), 1023);
        E.says(37, "ANSWERS in a TRAY (as many numbers as BECKS: a RIVER, or NONE)");
        y.numbers(1, 0, 2);
        y.write(1, 0, 256);
        y.write(1, 1, 255);
        E.due("marks by 8 bits: 0 and NONE", y.marks(1, 0), 1023 - 63);
        y.numbers(1, 1, 2);
        y.write(1, 1, 255);
        E.due("marks by 16 bits: 255", y.marks(1, 0), -3);
        y.room(0, 2);
        Edges.tray(y, 0, 0, 0);
        E.due("marks by the room as it is", y.marks(0, 0), 1023);
    }

    private static void ask() {
        E.says(38, "The RIVER it should be asked about next: the lesser number of these MARKS by which it WOULD go there, or wouldn't, is greatest, the first.");
        // By river 0 all marks, by 1 three, by 2 five, by 3 five too: five against five is the best.
        String text = "land;" + Edges.times(4, "river room 1;") + "beck flow 1;likes:if river=0 then 99 else"
            + " if river=1 then mark-6 else if river=2 then mark-4 else 5-mark end end end;";
        E.due("ask", asked(text, 0, 0), 2);
        E.due("ask, seven against three as well", asked(text.replace("mark-4", "mark-2").replace("5-mark", "3-mark"), 0, 0),
            1);
        E.due("ask, one against nine", asked("land;river room 1;river room 1;beck flow 1;likes:if river=0 then 99 else"
            + " mark-8 end;", 0, 0), 1);
        E.due("ask, nine against one", asked("land;river room 1;river room 1;beck flow 1;likes:if river=0 then 99 else"
            + " mark end;", 0, 0), 1);
        E.due("ask, all would everywhere", asked("land;river room 1;river room 1;beck flow 1;", 0, 0), 0);
        E.due("ask, none would anywhere", asked("land;river room 1;river room 1;beck flow 1;likes:0;", 0, NONE), 0);
        // Of these marks alone: 7 to 9 are there, of which all would in river 1 by 8, in river 0 by all.
        E.due("ask of the marks that hold", asked("land;river room 1;river room 1;beck flow 1;likes:if river=0 then mark-6"
            + " else if mark=8 then 1 else 0 end end;", 0, 0), 1);
        E.due("ask of the marks that hold", asked("land;river room 1;river room 1;beck flow 1;likes:if river=0 then mark-6"
            + " else if mark<7 then 1 else 0 end end;", 0, 0), 0);
        E.due("ask about beck 1", asked("land;river room 1;river room 2;beck flow 1;beck flow 1;likes:if river=1 then 9 else"
            + " mark-5 end*beck;", 1, NONE, 1), 0);
        E.due("ask, five against five ahead of three", asked("land;river room 1;river room 1;beck flow 1;likes:if river=0"
            + " then mark-4 else mark-6 end;takes:0;", 0, NONE), 0);
        for (int b = 0; b < 6; b++) {
            E.due("ask about beck " + b + " of six, with four rivers", asked("land;" + Edges.times(4, "river room 6;") + SIX
                + "likes:if river=3 then mark-4 else 9-river end;", b, 0, 0, 0, 0, 0, 0), 3);
        }
        E.due("ask, one mark alone", asked("land;river room 1;river room 1;beck flow 1;likes:1-mark;", 0, 0), 0);
        BeckChoice again = E.of("land;river room 1;river room 1;beck flow 1;likes:if river=0 then mark-6 else 2-mark end;");
        for (int i = 0; i < 3; i++) {
            Edges.tray(again, 0, 0);
            E.due("marks there", again.marks(0, 0), 896);
            E.due("ask there", again.ask(0, 0), 0);
            Edges.tray(again, 0, NONE);
            E.due("marks nowhere", again.marks(0, 0), 124);
            Edges.tray(again, 0, 1);
            E.due("marks in the other one", again.marks(0, 0), 3);
        }
        E.says(38, "NONE: there are no RIVERS, no MARKS; as marks().");
        E.due("ask without rivers", asked("land;beck flow 1;", 0, NONE), NONE);
        E.due("ask without marks", asked("land;river room 1;beck flow 1;", 0, NONE), NONE);
        E.due("ask of no numbers", asked("land;river room 1;beck flow 1;", 0), -4);
        E.due("ask of no river", asked("land;river room 1;beck flow 1;", 0, 1), -3);
        E.due("ask of no beck", asked("land;river room 1;beck flow 1;", 1, 0), -2);
        E.due("ask of too many", asked("land;river room 0;beck flow 1;", 0, 0), -3);
        E.due("ask without rivers of a river", asked("land;beck flow 1;", 0, 0), -3);
        E.due("ask by a missing tray", E.of("land;beck flow 1;").ask(1, 0), -6);
    }

    private static int asked(String text, int b, long... answers) {
        BeckChoice x = E.of(text);
        Edges.tray(x, 0, answers);
        return x.ask(0, b);
    }

    // ---- promises 39 and 40

    private static void floodChance(String text, int above, int below) {
        BeckChoice x = E.of(text);
        E.due("flooding(0, 0) of " + text, x.flooding(0, 0), above);
        E.due("flooding(0, 1) of " + text, x.flooding(0, 1), below);
    }

    private static void stayChance(String text, int b, int above, int below) {
        BeckChoice x = E.of(text);
        E.due("staying(" + b + ", 0) of " + text, x.staying(b, 0), above);
        E.due("staying(" + b + ", 1) of " + text, x.staying(b, 1), below);
    }

    private static void chances() {
        E.says(39, "CHANCE that a RIVER has more FLOW than it bears, all where they are");
        floodChance("land;river room 1 bears 0;beck flow 1;", 0, 1);
        floodChance("land;river room 1 bears 0;beck flow 1 to 0;", 1, 1);
        floodChance("land;river room 1 bears 1;beck flow 1 to 0;", 0, 1);
        floodChance("land;river room 1 bears 0;beck flow 0 to 0;", 0, 1);
        floodChance("land;river room 1 bears 0;", 0, 1);
        floodChance("land;river room 1 bears 0;river room 1 bears 0;beck flow 1 to 1;", 0, 1);
        E.says(39, "CHANCE: each BECK runs dry as likely as told, each by itself: it is NOWHERE then, and has no FLOW");
        floodChance("land;river room 1 bears 0;beck flow 1 dry 10 to 0;", 0, 1);
        floodChance("land;river room 1 bears 0;beck flow 1 dry 9 to 0;", 1, 10);
        floodChance("land;river room 1 bears 0;beck flow 1 dry 1 to 0;", 9, 10);
        String two = "beck flow 5 dry 3 to 0;beck flow 5 dry 5 to 0;";
        floodChance("land;river room 2 bears 4;" + two, 17, 20);
        floodChance("land;river room 2 bears 5;" + two, 7, 20);
        floodChance("land;river room 2 bears 9;" + two, 7, 20);
        floodChance("land;river room 2 bears 10;" + two, 0, 1);
        E.says(39, "what 0: the number above, 1: below, in lowest terms.");
        floodChance("land;river room 1 bears 0;beck flow 1 dry 5 to 0;", 1, 2);
        floodChance("land;river room 1 bears 0;beck flow 1 dry 2 to 0;", 4, 5);
        String six = "land;river room 6 bears 5;" + Edges.times(6, "beck flow 1 dry 9 to 0;");
        floodChance(six, 1, 1000000);
        floodChance(six.replace("bears 5", "bears 0").replace("dry 9", "dry 1"), 999999, 1000000);
        floodChance(six.replace("bears 5", "bears 0").replace("dry 9", "dry 5"), 63, 64);
        floodChance(six.replace("dry 9", "dry 0"), 1, 1);
        // Becks that are elsewhere change nothing.
        floodChance("land;river room 1 bears 0;beck flow 1 dry 5 to 0;" + Edges.times(5, "beck flow 9 dry 7;"), 1, 2);
        E.says(39, "-2.");
        BeckChoice x = E.of("land;river room 1 bears 0;beck flow 1 to 0;");
        E.due("flooding(1, 0)", x.flooding(1, 0), -2);
        E.due("flooding(0, 2)", x.flooding(0, 2), -2);
        for (int i : Edges.OUTSIDE) {
            E.due("flooding(" + i + ", 0)", x.flooding(i, 0), -2);
            E.due("flooding(0, " + i + ")", x.flooding(0, i), -2);
        }
        staying();
    }

    private static void staying() {
        E.says(40, "CHANCE that a BECK doesn't run dry, and in the CHOICE BEST FOR BECKS of those that don't is in the RIVER"
            + " where it is in the one of all");
        stayChance("land;river room 1;beck flow 1;", 0, 1, 1);
        stayChance("land;river room 1;beck flow 1 dry 10;", 0, 0, 1);
        stayChance("land;river room 1;beck flow 1 dry 4;", 0, 3, 5);
        // Beck 1 is in river 1, and goes to river 0 when beck 0 is dry.
        String two = "land;river room 1;river room 1;beck flow 1 dry 3;beck flow 1 dry 5;";
        stayChance(two, 0, 7, 10);
        stayChance(two, 1, 7, 20);
        // With room for both, or liking river 1 better, it stays whatever beck 0 does.
        stayChance(two.replaceFirst("room 1", "room 2"), 1, 1, 2);
        stayChance(two + "likes:1+river*beck;", 1, 1, 2);
        stayChance(two.replace("dry 3", "dry 0"), 1, 1, 2);
        stayChance(two.replace("dry 3", "dry 10"), 1, 0, 1);
        // It doesn't matter where they are.
        stayChance(two.replace("dry 5", "dry 5 to 0"), 1, 7, 20);
        // By the choice best for becks: by the other one beck 0 would be in river 2.
        stayChance(THREE, 0, 1, 1);
        String six = "land;river room 6;" + Edges.times(6, "beck flow 1 dry 9;");
        stayChance(six, 5, 1, 10);
        String last = "land;river room 5;river room 1;" + Edges.times(6, "beck flow 1 dry 1;");
        stayChance(last, 5, 531441, 1000000);
        E.says(40, "what 0: above, 1: below (NOWHERE in that one: 0 by 1)");
        stayChance("land;beck flow 1;", 0, 0, 1);
        stayChance("land;river room 0;beck flow 1 dry 5;", 0, 0, 1);
        stayChance("land;river room 1;beck flow 1 dry 5;beck flow 1 dry 5;", 1, 0, 1);
        E.says(40, "-2.");
        BeckChoice x = E.of(two);
        E.due("staying(2, 0)", x.staying(2, 0), -2);
        E.due("staying(0, 2)", x.staying(0, 2), -2);
        for (int i : Edges.OUTSIDE) {
            E.due("staying(" + i + ", 0)", x.staying(i, 0), -2);
            E.due("staying(0, " + i + ")", x.staying(0, i), -2);
        }
    }

    public static void main(String[] args) {
        lies();
        woos();
        floods();
        marks();
        ask();
        chances();
        E.end();
    }
}
