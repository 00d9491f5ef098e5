/** Boundary cases of what holds: the first terms behind ==== 3., promises 19 to 29. */
public final class BeckChoiceHoldEdges {
    private static final Edges E = new Edges();
    private static final int NONE = Edges.NONE;

    /** Beck 0 likes rivers 0, 1, 2, beck 1 likes 1, 2, 0, beck 2 likes 2, 0, 1 in this order; rivers the reverse. */
    private static final String ROUND = "if river=beck then 3 else if river=beck+1 or river+2=beck then 2 else 1 end end";
    private static final String ROUND_LAWS = "likes:" + ROUND + ";takes:4-" + ROUND + ";";
    private static final String THREE = "land;" + Edges.times(3, "river room 1;") + Edges.times(3, "beck flow 1;")
        + ROUND_LAWS;
    /** Becks 0 and 1 like rivers 0 and 1, 2 and 3 like 2 and 3, each its own better; rivers the other ones. */
    private static final String PAIRS = "land;" + Edges.times(4, "river room 1;") + Edges.times(4, "beck flow 1;")
        + "likes:if beck=river then 2 else if beck+river=1 or beck+river=5 and beck<4 then 1 else 0 end end;"
        + "takes:if beck=river then 1 else if beck+river=1 or beck+river=5 and beck<4 then 2 else 0 end end;";

    private static BeckChoice at(int... rivers) {
        StringBuilder s = new StringBuilder("land;" + Edges.times(3, "river room 1;"));
        for (int r : rivers) {
            s.append("beck flow 1").append(r == NONE ? "" : " to " + r).append(';');
        }
        return E.of(s + ROUND_LAWS);
    }

    private static void holds() {
        E.says(19, "Whether the CHOICE as it is HOLDS: 1 if so, else 0.");
        E.due("holds() where becks like it best", at(0, 1, 2).holds(), 1);
        E.due("holds() between", at(1, 2, 0).holds(), 1);
        E.due("holds() where rivers like it best", at(2, 0, 1).holds(), 1);
        E.due("holds()", at(0, 2, 1).holds(), 0);
        E.due("holds()", at(2, 1, 0).holds(), 0);
        E.due("holds()", at(1, 0, 2).holds(), 0);
        E.due("holds() with one nowhere", at(0, 1, NONE).holds(), 0);
        E.due("holds() with all nowhere", at(NONE, NONE, NONE).holds(), 0);
        E.says(19, "It HOLDS, if each is where both WOULD and no TWO BREAKS it.");
        E.due("holds() where the beck wouldn't", E.of("land;river room 1;beck flow 1 to 0;likes:0;").holds(), 0);
        E.due("holds() where the river wouldn't", E.of("land;river room 1;beck flow 1 to 0;takes:0;").holds(), 0);
        E.due("holds() where both would", E.of("land;river room 1;beck flow 1 to 0;").holds(), 1);
        E.due("holds() nowhere, the beck wouldn't", E.of("land;river room 1;beck flow 1;likes:0;").holds(), 1);
        E.due("holds() nowhere, the river wouldn't", E.of("land;river room 1;beck flow 1;takes:0;").holds(), 1);
        E.due("holds() of the last beck", E.of("land;river room 6;" + Edges.times(6, "beck flow 1 to 0;")
            + "likes:5-beck;").holds(), 0);
        E.says(19, "(There is always one that HOLDS.)");
        String[] lands = {"land;", "land;river room 6;", "land;beck flow 1;", "land;river room 0;beck flow 1;",
            "land;river room 1;beck flow 1;likes:0;takes:0;"};
        for (String land : lands) {
            E.due("choices() of " + land, E.of(land).choices(), 1);
            E.due("choice(0) of " + land, E.of(land).choice(0), 0);
            E.due("holds() of " + land, E.of(land).holds(), 1);
        }
    }

    private static void breaks(String what, String text, int twos) {
        BeckChoice x = E.of(text);
        E.due("breaks(): " + what, x.breaks(), twos);
        E.due("breaking(): " + what, x.breaking() == NONE ? 1 : 0, twos == 0 ? 1 : 0);
    }

    private static void breaks() {
        E.says(20, "How many TWOS BREAK it.");
        breaks("no becks", "land;river room 1;", 0);
        breaks("no rivers", "land;beck flow 1;", 0);
        breaks("one", "land;river room 1;beck flow 1;", 1);
        breaks("as many as can be", "land;" + Edges.times(4, "river room 1;") + Edges.times(6, "beck flow 1;"), 24);
        E.says(20, "A TWO of a BECK and a RIVER BREAKS it, if it isn't there");
        breaks("it is there, with room left", "land;river room 2;beck flow 1 to 0;", 0);
        breaks("it is there, another one liked less too", "land;river room 2;beck flow 1 to 0;beck flow 1 to 0;", 0);
        E.says(20, "both WOULD, the BECK is NOWHERE or likes the RIVER better than where it is");
        breaks("the beck wouldn't", "land;river room 1;beck flow 1;likes:0;", 0);
        breaks("the river wouldn't", "land;river room 1;beck flow 1;takes:0;", 0);
        breaks("liked better", "land;river room 1;river room 1;beck flow 1 to 0;likes:1+river;", 1);
        breaks("liked less", "land;river room 1;river room 1;beck flow 1 to 1;likes:1+river;", 0);
        breaks("liked alike, of less number", "land;river room 1;river room 1;beck flow 1 to 1;", 1);
        breaks("liked alike, of more number", "land;river room 1;river room 1;beck flow 1 to 0;", 0);
        breaks("from where it wouldn't", "land;river room 1;river room 1;beck flow 1 to 0;likes:river;", 1);
        breaks("liked less than where it isn't wanted",
            "land;river room 1;river room 1;beck flow 1 to 0;likes:2-river;takes:river;", 0);
        E.says(20, "and the RIVER has ROOM or likes one of its BECKS less");
        breaks("no room at all", "land;river room 0;beck flow 1;", 0);
        breaks("full, one liked less", "land;river room 1;beck flow 1 to 0;beck flow 2;takes:flow;", 1);
        breaks("full, one liked better", "land;river room 1;beck flow 2 to 0;beck flow 1;takes:flow;", 0);
        breaks("full, one liked alike, of less number", "land;river room 1;beck flow 1 to 0;beck flow 1;", 0);
        breaks("full, one liked alike, of more number", "land;river room 1;beck flow 1;beck flow 1 to 0;", 1);
        breaks("full, one of two liked less",
            "land;river room 2;beck flow 1 to 0;beck flow 2;beck flow 3 to 0;takes:flow;", 1);
        breaks("full, of one where the river wouldn't",
            "land;river room 1;beck flow 0 to 0;beck flow 1;takes:flow;", 1);
        breaks("room for one more", "land;river room 2;beck flow 9 to 0;beck flow 1;takes:flow;", 1);
        E.says(21, "The first TWO that does: 10 times the BECK, and the RIVER (the least number). NONE: none does.");
        String most = "land;" + Edges.times(4, "river room 1;") + Edges.times(6, "beck flow 1;");
        E.due("breaking() of all", E.of(most).breaking(), 0);
        E.due("breaking() of the last", E.of(most + "likes:if beck=5 and river=3 then 1 else 0 end;").breaking(), 53);
        E.due("breaking() of a lesser beck", E.of(most + "likes:if beck=4 and river=3 or beck=5 then 1 else 0 end;")
            .breaking(), 43);
        E.due("breaking() of a lesser river", E.of(most + "likes:if beck=5 and river>0 then river else 0 end;")
            .breaking(), 51);
        E.due("breaking() of none", E.of(most + "likes:0;").breaking(), NONE);
        E.due("breaking() of no land", new BeckChoice().breaking(), NONE);
    }

    private static void ends() {
        BeckChoice x = E.of(THREE);
        E.says(22, "BEST FOR BECKS: of those that HOLD the one in which each BECK is where it likes it best of all where it"
            + " is in one that HOLDS.");
        for (int b = 0; b < 3; b++) {
            E.due("forBecks(" + b + ")", x.forBecks(b), b);
        }
        E.says(23, "BEST FOR RIVERS: likewise worst. (There are such.)");
        for (int b = 0; b < 3; b++) {
            E.due("forRivers(" + b + ")", x.forRivers(b), (b + 2) % 3);
        }
        E.due("count(2): nothing is done", x.count(2), 7);
        E.says(22, "BEST FOR BECKS: the RIVER of a BECK. NONE: it is NOWHERE; -2.");
        BeckChoice y = E.of("land;river room 1;river room 0;beck flow 1;beck flow 2;beck flow 3;takes:flow-1;");
        int[] where = {NONE, NONE, 0};
        for (int b = 0; b < 3; b++) {
            E.due("forBecks(" + b + ")", y.forBecks(b), where[b]);
        }
        E.due("forBecks(3)", y.forBecks(3), -2);
        for (int b : Edges.OUTSIDE) {
            E.due("forBecks(" + b + ")", y.forBecks(b), -2);
        }
        E.says(23, "BEST FOR RIVERS: the RIVER of a BECK. NONE: it is NOWHERE; -2.");
        for (int b = 0; b < 3; b++) {
            E.due("forRivers(" + b + ")", y.forRivers(b), where[b]);
        }
        E.due("forRivers(3)", y.forRivers(3), -2);
        for (int b : Edges.OUTSIDE) {
            E.due("forRivers(" + b + ")", y.forRivers(b), -2);
        }
        E.says(22, "A CHOICE: each BECK in a RIVER or NOWHERE, no RIVER more than its ROOM.");
        BeckChoice z = E.of("land;river room 2;river room 3;" + Edges.times(6, "beck flow 1;"));
        for (int b = 0; b < 6; b++) {
            E.due("forBecks(" + b + ")", z.forBecks(b), b < 2 ? 0 : b < 5 ? 1 : NONE);
            E.due("forRivers(" + b + ")", z.forRivers(b), b < 2 ? 0 : b < 5 ? 1 : NONE);
        }
        // Each one pushes out the one ahead: the last two are left.
        BeckChoice late = E.of("land;river room 2;" + Edges.times(6, "beck flow 1;") + "takes:flow*2+beck;");
        for (int b = 0; b < 6; b++) {
            E.due("forBecks(" + b + ") of the last two", late.forBecks(b), b < 4 ? NONE : 0);
            E.due("forRivers(" + b + ") of the last two", late.forRivers(b), b < 4 ? NONE : 0);
        }
        late.rain(0, 9);
        for (int b = 0; b < 6; b++) {
            E.due("forBecks(" + b + ") behind rain", late.forBecks(b), b == 0 || b == 5 ? 0 : NONE);
            E.due("forRivers(" + b + ") behind rain", late.forRivers(b), b == 0 || b == 5 ? 0 : NONE);
        }
        BeckChoice other = E.of("land;river room 1;beck flow 5;beck flow 0;beck flow 0;likes:flow;takes:flow;");
        E.due("forBecks(0)", other.forBecks(0), 0);
        other.rain(0, 0);
        other.rain(1, 2);
        other.rain(2, 3);
        E.due("forBecks(1) of others than ahead", other.forBecks(1), NONE);
        for (int b = 2; b >= 0; b--) {
            E.due("forBecks(" + b + ") of others than ahead", other.forBecks(b), b == 2 ? 0 : NONE);
            E.due("forRivers(" + b + ") of others than ahead", other.forRivers(b), b == 2 ? 0 : NONE);
        }
        z.room(0, 6);
        for (int b = 0; b < 6; b++) {
            E.due("forBecks(" + b + ") with room for all", z.forBecks(b), 0);
            E.due("forRivers(" + b + ") with room for all", z.forRivers(b), 0);
        }
    }

    private static void all() {
        E.says(24, "How many CHOICES HOLD.");
        E.due("choices() of none", new BeckChoice().choices(), 1);
        E.due("choices() of one order", E.of("land;river room 1;river room 1;beck flow 1;beck flow 1;").choices(), 1);
        E.due("choices() of three", E.of(THREE).choices(), 3);
        E.due("choices() of two by two", E.of(PAIRS).choices(), 4);
        E.says(25, "The k-th CHOICE that HOLDS, by its number. NONE: not so many; -3: k is below 0.");
        int[] three = {2 + 5 * 3 + 25, 3 + 5 + 25 * 2, 1 + 5 * 2 + 25 * 3};
        int[] pairs = {7 + 475, 11 + 475, 7 + 575, 11 + 575};
        for (int k = 0; k < 4; k++) {
            E.due("choice(" + k + ") of three", E.of(THREE).choice(k), k < 3 ? three[k] : NONE);
            E.due("choice(" + k + ") of two by two", E.of(PAIRS).choice(k), pairs[k]);
        }
        E.due("choice(4) of two by two", E.of(PAIRS).choice(4), NONE);
        E.due("choice(MAX)", E.of(PAIRS).choice(Integer.MAX_VALUE), NONE);
        E.due("choice(-1)", E.of(PAIRS).choice(-1), -3);
        E.due("choice(MIN)", E.of(PAIRS).choice(Integer.MIN_VALUE), -3);
        E.says(25, "CHOICES are told as a number: for BECK 0, 1, 2 .. its RIVER and 1, or 0 (NOWHERE), as digits of base 5,"
            + " BECK 0 the lowest.");
        String most = "land;" + Edges.times(4, "river room 6;") + Edges.times(6, "beck flow 1;");
        E.due("choice(0): all nowhere", E.of(most + "likes:0;").choice(0), 0);
        E.due("choice(0): all in river 0", E.of(most).choice(0), 3906);
        E.due("choice(0): all in river 3", E.of(most + "likes:river;").choice(0), 4 * 3906);
        E.due("choice(0): beck 0 alone", E.of(most + "likes:if beck=0 then 1+river else 0 end;").choice(0), 4);
        E.due("choice(0): beck 5 alone", E.of(most + "likes:if beck=5 then 1+river else 0 end;").choice(0), 4 * 3125);
        E.says(26, "RIVERS in which a BECK is in some CHOICE that HOLDS, as bits. -2.");
        for (int b = 0; b < 4; b++) {
            E.due("can(" + b + ") of three", E.of(THREE).can(b), b < 3 ? 7 : -2);
            E.due("can(" + b + ") of two by two", E.of(PAIRS).can(b), b < 2 ? 3 : 12);
        }
        E.due("can(0) nowhere", E.of(most + "likes:0;").can(0), 0);
        E.due("can(5) in one of four", E.of(most + "likes:river;").can(5), 8);
        for (int b : Edges.OUTSIDE) {
            E.due("can(" + b + ")", E.of(PAIRS).can(b), -2);
        }
        BeckChoice moved = E.of("land;river room 1;river room 1;beck flow 1;likes:if river=flow then 2 else 1 end;");
        E.due("can(0)", moved.can(0), 2);
        moved.rain(0, 0);
        E.due("can(0) behind rain", moved.can(0), 1);
        E.due("can(4)", E.of(PAIRS).can(4), -2);
        E.says(27, "BECKS that are in the same RIVER (or NOWHERE) in all CHOICES that HOLD, as bits.");
        E.due("sure() of three", E.of(THREE).sure(), 0);
        E.due("sure() of one choice", E.of(most).sure(), 63);
        E.due("sure(): all nowhere", E.of(most + "likes:0;").sure(), 63);
        E.due("sure() with a fourth that is nowhere", E.of(THREE.replace("likes", "beck flow 1;likes")
            .replace("takes:", "takes:if beck=3 then 0 else 1 end*(").replaceAll("end;$", "end);")).sure(), 8);
        E.due("sure() without becks", E.of("land;river room 1;").sure(), 0);
        // Becks 0 and 1 are as they like, 2 and 3 have two ways.
        E.due("sure() of some", E.of(PAIRS.replace("takes:if beck=river then 1",
            "takes:if beck=river then if beck<2 then 3 else 1 end")).sure(), 3);
    }

    private static void fairest() {
        E.says(28, "Of the CHOICES that HOLD the one in which the greatest RANK of a BECK is least");
        E.due("fairest() of three, the last by its number", E.of(THREE).fairest(), 86);
        E.due("fairest() of two by two", E.of(PAIRS).fairest(), 586);
        E.due("fairest() of one beck", E.of("land;river room 1;beck flow 1;").fairest(), 1);
        E.says(28, "NOWHERE: 9");
        E.due("fairest() with all nowhere", E.of("land;river room 1;beck flow 1;likes:0;").fairest(), 0);
        // One more beck that is nowhere: all have a greatest rank of 9, and the first is told.
        String nowhere = PAIRS.replace("likes", "beck flow 1;likes");
        E.due("choices() with one nowhere", E.of(nowhere).choices(), 4);
        E.due("fairest() with one nowhere", E.of(nowhere).fairest(), 482);
        E.says(28, "of like ones the first by its number: that number.");
        // Beck 4 is in river 2 with beck 2 or 3, though it likes rivers 0 and 1 better: rank 2 in all choices.
        String third = PAIRS.replace("likes:if", "beck flow 1;likes:if beck=4 then 4-river else if")
            .replace("takes:if", "takes:if beck=4 then if river=2 then 9 else 0 end else if")
            .replace("end end;", "end end end;").replaceFirst("(river room 1;river room 1;river room )1", "$12");
        BeckChoice x = E.of(third);
        E.due("choices()", x.choices(), 4);
        E.due("fairest()", x.fairest(), 482 + 3 * 625);
        E.says(28, "(a RANK: how many RIVERS it likes better than where it is;");
        // Rank 1 for beck 4, as for all in the choices that they like less: the first by its number again.
        E.due("fairest(): of as many as another's rank", E.of(third.replace("4-river", "if river=2 then 5 else if river=0"
            + " then 6 else 1 end end")).fairest(), 482 + 3 * 625);
        E.due("fairest(): rank 0 for all", E.of(third.replace("4-river", "if river=2 then 5 else 1 end")).fairest(),
            586 + 3 * 625);
    }

    private static void fullest() {
        E.says(29, "Of all CHOICES in which each is where both WOULD the one with most BECKS that are somewhere");
        // What holds has beck 0 in river 0; then beck 1, which would nowhere else, is nowhere.
        BeckChoice x = E.of("land;river room 1;river room 1;beck flow 1;beck flow 1;"
            + "likes:if beck=1 and river=1 then 0 else 2-river end;");
        E.due("choice(0)", x.choice(0), 1);
        E.due("fullest()", x.fullest(), 2 + 5);
        // Beck 1 would in river 0 alone, so beck 0 must be in river 1, so beck 2 in river 2.
        E.due("fullest() by a chain", E.of("land;" + Edges.times(3, "river room 1;") + Edges.times(3, "beck flow 1;")
            + "likes:if beck=1 then 1-river else if beck=0 then 2-river else river end end;").fullest(), 2 + 5 + 75);
        E.due("fullest() where a river wouldn't", E.of("land;river room 2;beck flow 1;beck flow 0;takes:flow;").fullest(), 1);
        E.due("fullest() where none would", E.of("land;river room 6;beck flow 1;likes:0;").fullest(), 0);
        E.due("fullest() without room", E.of("land;river room 0;beck flow 1;").fullest(), 0);
        E.due("fullest() without rivers", E.of("land;beck flow 1;").fullest(), 0);
        E.due("fullest() without becks", E.of("land;river room 1;").fullest(), 0);
        E.due("fullest() of all that can be",
            E.of("land;" + Edges.times(4, "river room 6;") + Edges.times(6, "beck flow 1;") + "likes:river;").fullest(),
            2 * 3906);
        String six = Edges.times(6, "beck flow 1;");
        E.due("fullest() for one of six", E.of("land;river room 1;" + six).fullest(), 1);
        E.due("fullest() for two of six", E.of("land;river room 1;river room 1;" + six).fullest(), 7);
        E.due("fullest() for the last of six", E.of("land;river room 6;" + six + "likes:beck-4;").fullest(), 3125);
        BeckChoice again = E.of(PAIRS);
        E.due("fullest()", again.fullest(), 482);
        E.due("fullest() again", again.fullest(), 482);
        E.due("choices() behind it", again.choices(), 4);
        E.due("fullest() behind that", again.fullest(), 482);
        again.room(0, 0);
        E.due("fullest() with less room", again.fullest(), 2 + 475);
        E.says(29, "of like ones the first by its number: that number.");
        E.due("fullest() of two ways", E.of("land;river room 1;river room 1;beck flow 1;beck flow 1;").fullest(), 7);
        E.due("fullest() for one of two", E.of("land;river room 1;beck flow 1;beck flow 1;").fullest(), 1);
        E.due("fullest() for two of four", E.of("land;river room 2;" + Edges.times(4, "beck flow 1;")).fullest(), 6);
        E.due("fullest() for three of four", E.of("land;river room 1;river room 2;" + Edges.times(4, "beck flow 1;"))
            .fullest(), 2 + 5 * 2 + 25);
    }

    public static void main(String[] args) {
        holds();
        breaks();
        ends();
        all();
        fairest();
        fullest();
        E.end();
    }
}
