/** One method for each promise of the document: ordinary inputs, the edges that it names, wrong inputs. */
public final class BeckChoicePromises {
    private static int wrong = 0;
    private static int promise;

    private static final int NONE = BeckChoice.NONE;
    private static final int UNLIKED = -99000002;

    /** Two rivers with room for one, each liked best by the beck whose mark is its name, and the reverse. */
    private static final String CROSSED = "land;river room 1 name 1 bears 3;river room 1 name 2;beck flow 3 mark 1;"
        + "beck flow 4 mark 2 dry 5;likes:if name=mark then 2 else 1 end;takes:if name=mark then 1 else 2 end;";
    /** A narrow river that all like best, a wide one that can woo. */
    private static final String WOOING = "land;river room 2;river room 1;beck flow 5;beck flow 3;beck flow 2;"
        + "likes:if river=1 then 3 else 1+gifts end;takes:flow;";
    /** No laws: all would, less numbers are liked better. */
    private static final String PLAIN = "land;river room 2 bears 7;river room 1 bears 4;beck flow 5 to 0;"
        + "beck flow 3 to 0 dry 2;beck flow 6 to 1 dry 5;beck flow 1;";

    private static void due(String call, long got, long want) {
        if (got != want) {
            wrong++;
            System.out.println("promise " + promise + ": " + call + " answered " + got + ", due is " + want);
        }
    }

    private static int feed(BeckChoice x, String text) {
        int n = 0;
        for (int i = 0; i < text.length(); i += 20) {
            int[] v = new int[5];
            for (int j = 0; j < 20; j++) {
                int c = i + j < text.length() ? text.charAt(i + j) : 32;
                v[j / 4] = v[j / 4] << 8 | c & 255;
            }
            n = x.feed(v[0], v[1], v[2], v[3], v[4]);
        }
        return n;
    }

    private static int land(BeckChoice x, String text) {
        feed(x, text);
        return x.land(text.length());
    }

    private static BeckChoice of(String text) {
        BeckChoice x = new BeckChoice();
        int lines = land(x, text);
        if (lines < 0) {
            due("land of " + text, lines, 1);
        }
        return x;
    }

    private static void tray(BeckChoice x, int tray, long... numbers) {
        x.numbers(tray, 3, numbers.length);
        for (int i = 0; i < numbers.length; i++) {
            x.write(tray, i, numbers[i]);
        }
    }

    private static void faulty(String text, int fault, int place) {
        BeckChoice x = of(CROSSED);
        x.rain(0, 9);
        due("land of " + text, land(x, text), -30 - fault);
        due("fault(0) of " + text, x.fault(0), fault);
        due("fault(1) of " + text, x.fault(1), place);
        due("count(7) of " + text, x.count(7), 0);
        due("count(0) of " + text, x.count(0), 2);
        due("beck(0, 1) of " + text, x.beck(0, 1), 9);
        due("count(6) of " + text, x.count(6), 1);
    }

    private static int likesBy(String law) {
        return of("land;river room 1;river room 1 name 7;beck flow 1;beck flow 5 mark 4;likes:" + law + ";").likes(1, 1);
    }

    private static void promise1() {
        BeckChoice x = new BeckChoice();
        due("count(0)", x.count(0), 0);
        due("count(1)", x.count(1), 0);
        due("count(8)", x.count(8), 0);
        due("holds()", x.holds(), 1);
        due("choices()", x.choices(), 1);
        due("choice(0)", x.choice(0), 0);
        due("forBecks(0)", x.forBecks(0), -2);
        due("fairest()", x.fairest(), 0);
        due("fullest()", x.fullest(), 0);
        due("NONE", BeckChoice.NONE, -1);
    }

    private static void promise2() {
        BeckChoice x = new BeckChoice();
        for (int i = 1; i <= 45; i++) {
            due("feed " + i, x.feed(0x20202020, 0x20202020, 0x20202020, 0x20202020, 0x20202020), 20 * i);
        }
        due("feed 46", x.feed(0, 0, 0, 0, 0), -5);
        due("count(7)", x.count(7), 900);
        due("land(900)", x.land(900), -32);
        due("fault(1)", x.fault(1), 900);
        BeckChoice y = new BeckChoice();
        y.feed(0x6c616e64, 0x3b626563, 0x6b20666c, 0x6f772037, 0x3b3f3f3f);
        due("land(17): the highest byte is first", y.land(17), 2);
        due("beck(0, 1)", y.beck(0, 1), 7);
    }

    private static void promise3() {
        BeckChoice x = new BeckChoice();
        due("land(1) of an empty tape", x.land(1), -3);
        due("land(0) of an empty tape", x.land(0), -32);
        feed(x, "land;beck flow 1;");
        due("land(-1)", x.land(-1), -3);
        due("land(21)", x.land(21), -3);
        due("count(7) stays", x.count(7), 20);
        due("land(5)", x.land(5), 1);
        due("count(7) is empty", x.count(7), 0);
        due("count(0)", x.count(0), 0);
        due("land(20) with blanks behind", feed(x, "land;beck flow 1;") == 20 ? x.land(20) : 0, 2);
        due("lines", land(x, " land\n; river room 6 bears 99 name 9;beck flow 0 dry 10 mark 9 to 0\n;"
            + "likes:1;likes:2;takes:0-3;"), 6);
        due("later likes", x.likes(0, 0), 2);
        due("takes", x.takes(0, 0), -3);
        BeckChoice y = of(CROSSED);
        y.send(0, 0, 3);
        y.rain(0, 9);
        land(y, CROSSED);
        due("gifts(0, 0)", y.gifts(0, 0), 0);
        due("beck(0, 1)", y.beck(0, 1), 3);
        due("count(6)", y.count(6), 0);
        later();
        laws();
    }

    private static void later() {
        BeckChoice x = of("land;river room 1 name 3 bears 1 name 4 bears 2;river room 1;"
            + "beck flow 1 mark 1 dry 1 to 0 to 0 mark 2 dry 2 to 1;beck flow 2 to 0;");
        due("river(0, 1)", x.river(0, 1), 4);
        due("river(0, 2)", x.river(0, 2), 2);
        due("beck(0, 0)", x.beck(0, 0), 1);
        due("beck(0, 2)", x.beck(0, 2), 2);
        due("beck(0, 3)", x.beck(0, 3), 2);
        due("beck(1, 0)", x.beck(1, 0), 0);
        due("river(1, 2) untold", x.river(1, 2), 99);
        due("beck(1, 2) untold", x.beck(1, 2), 0);
        // A land with fewer rivers leaves nothing of the one ahead.
        land(x, "land;river room 1;beck flow 1;beck flow 1;");
        due("beck(0, 4)", x.beck(0, 4), 1);
    }

    private static void laws() {
        due("1+2*3", likesBy("1+2*3"), 7);
        due("9-2-3", likesBy("9-2-3"), 4);
        due("(1+2)*3", likesBy("(1+2)*3"), 9);
        due("kept above", likesBy("999*999*999"), 1000000);
        due("kept each", likesBy("999*999*999-999*999-1"), 1998);
        due("kept below", likesBy("0-999*999*999"), -1000000);
        due("kept below each", likesBy("0-999*999-999*999+1"), -999999);
        due("all variables", likesBy("beck+flow*10+mark*100+river*7+name*11+gifts"), 1 + 50 + 400 + 7 + 77);
        due("if", likesBy("if 1=1 then 5 else 6 end+1"), 6);
        due("else", likesBy("if 1<1 then 5 else 6 end*2"), 12);
        due("more", likesBy("if 2>1 then 5 else 6 end"), 5);
        due("and ahead of or", likesBy("if 1=1 or 1=1 and 1=2 then 5 else 6 end"), 5);
        due("brackets", likesBy("if [1=1 or 1=1] and 1=2 then 5 else 6 end"), 6);
        due("not of a unit alone", likesBy("if not 1=2 and 1=2 then 5 else 6 end"), 6);
        due("not not", likesBy("if not not 1=1 then 5 else 6 end"), 5);
        due("and of two kinds", likesBy("if 1=1 and 1<2 and 2>1 then 5 else 6 end"), 5);
        due("not of what is", likesBy("if not 1=1 then 5 else 6 end"), 6);
        due("not of either", likesBy("if not [1=1 or 1<2] then 5 else 6 end"), 6);
        due("six within", likesBy("((((((8))))))"), 8);
        due("six, and six again", likesBy("((((((8))))))+((((((8))))))"), 16);
        due("if in a comparison", likesBy("if if 1=1 then 3 else 4 end=3 then 5 else 6 end"), 5);
        due("three digits", likesBy("007"), 7);
    }

    private static void promise4() {
        BeckChoice x = new BeckChoice();
        due("fault(0)", x.fault(0), 0);
        due("fault(1)", x.fault(1), NONE);
        due("fault(2)", x.fault(2), NONE);
        due("fault(-1)", x.fault(-1), NONE);
        land(x, "land;?");
        due("fault(0)", x.fault(0), 1);
        x.land(5);
        due("fault(0) of the latest that was read", x.fault(0), 1);
        land(x, "land;");
        due("fault(0)", x.fault(0), 0);
        due("fault(1)", x.fault(1), NONE);
        faults();
    }

    private static void faults() {
        faulty("", 2, 0);
        faulty("  ", 2, 2);
        faulty("Land;", 1, 0);
        faulty("landx;", 2, 0);
        faulty("land", 2, 4);
        faulty("land ", 2, 5);
        faulty("land;land;", 2, 5);
        faulty("land;;", 2, 5);
        faulty("land;az;", 2, 5);
        faulty("land;za;", 2, 5);
        faulty("land;`;", 1, 5);
        faulty("land;{;", 1, 5);
        faulty("land;/;", 1, 5);
        faulty("land;:;", 2, 5);
        faulty("land;beck flow 1\t;", 1, 16);
        faulty("land;beck flow 1234;", 1, 15);
        faulty("land;beck flow x 1234;", 2, 15);
        faulty("land;beck flow 10 ?", 3, 15);
        faulty("land;river room 7;", 3, 16);
        faulty("land;river room 1 bears 100;", 3, 24);
        faulty("land;river room 1;beck flow 1 to 1;", 3, 33);
        faulty("land;river room 0;beck flow 1 to 0;", 3, 33);
        faulty("land;beck flow 1 to 0;river room 1;", 3, 20);
        faulty("land;river room 1;beck flow 1 to 0;beck flow 1 to 0;", 3, 50);
        faulty("land;beck flow 1;beck flow 1;beck flow 1;beck flow 1;beck flow 1;beck flow 1;beck ?", 4, 77);
        faulty("land;river room 1;river room 1;river room 1;river room 1;river", 4, 57);
        faulty("land;likes:(((((((1", 4, 17);
        faulty("land;likes:if not [(if not not 1", 4, 27);
        faulty("land;likes:if not [(if not [", 4, 27);
        faulty("land;likes:((((((1(", 2, 18);
        faulty("land;likes:1 1;", 2, 13);
        faulty("land;likes:;", 2, 11);
        faulty("land;likes:not 1;", 2, 11);
        faulty("land;likes:1=1;", 2, 12);
        faulty("land;likes:if 1 then", 2, 16);
        faulty("land;likes:if (1=1) then", 2, 16);
        faulty("land;likes:if 1=1 then 1 end", 2, 25);
        faulty("land;likes:if 1=1 then 1 else 1;", 2, 31);
        faulty("land;takes:-1;", 2, 11);
        faulty("land;takes:room;", 2, 11);
        faulty("land;beck flow 1 mark;", 2, 21);
        faulty("land;beck flow 1 name 1;", 2, 17);
        faulty("land;river room 1 mark 1;", 2, 18);
        faulty("land;beck flow 1 \u00e9", 1, 17);
    }

    private static void promise5() {
        BeckChoice x = of(PLAIN);
        due("beck(2, 0)", x.beck(2, 0), 1);
        due("beck(3, 0)", x.beck(3, 0), NONE);
        due("beck(2, 1)", x.beck(2, 1), 6);
        due("beck(2, 3)", x.beck(2, 3), 5);
        due("beck(2, 4)", x.beck(2, 4), 3);
        due("beck(2, 5)", x.beck(2, 5), -2);
        due("beck(2, -1)", x.beck(2, -1), -2);
        due("beck(4, 0)", x.beck(4, 0), -2);
        due("beck(-1, 0)", x.beck(-1, 0), -2);
        BeckChoice y = of("land;river room 1;river room 1;river room 1;beck flow 0 mark 6;"
            + "likes:if river=1 then 0 else 1 end;takes:if river=2 then 0-1 else 1 end;");
        due("beck(0, 4)", y.beck(0, 4), 1);
        due("beck(0, 2)", y.beck(0, 2), 6);
    }

    private static void promise6() {
        BeckChoice x = of(PLAIN);
        due("river(0, 0)", x.river(0, 0), 2);
        due("river(0, 1)", x.river(0, 1), 0);
        due("river(0, 2)", x.river(0, 2), 7);
        due("river(0, 3)", x.river(0, 3), 3);
        due("river(0, 4)", x.river(0, 4), 8);
        due("river(0, 5)", x.river(0, 5), 1);
        due("river(0, 6)", x.river(0, 6), -2);
        due("river(2, 0)", x.river(2, 0), -2);
        due("river(-1, 0)", x.river(-1, 0), -2);
        x.leave(2);
        due("river(1, 3)", x.river(1, 3), 0);
        due("river(1, 5)", x.river(1, 5), NONE);
    }

    private static void promise7() {
        BeckChoice x = of(CROSSED);
        due("likes(0, 0)", x.likes(0, 0), 2);
        due("likes(0, 1)", x.likes(0, 1), 1);
        due("likes(2, 0)", x.likes(2, 0), UNLIKED);
        due("likes(0, 2)", x.likes(0, 2), UNLIKED);
        due("likes(-1, -1)", x.likes(-1, -1), UNLIKED);
        due("likes(0, 0) without a law", of(PLAIN).likes(0, 0), 1);
        BeckChoice y = of("land;river room 1;beck flow 2;likes:flow*10+gifts;");
        y.rain(0, 7);
        y.send(0, 0, 4);
        due("likes(0, 0) by flow and gifts", y.likes(0, 0), 74);
    }

    private static void promise8() {
        BeckChoice x = of(CROSSED);
        due("takes(0, 0)", x.takes(0, 0), 1);
        due("takes(0, 1)", x.takes(0, 1), 2);
        due("takes(2, 0)", x.takes(2, 0), UNLIKED);
        due("takes(0, 2)", x.takes(0, 2), UNLIKED);
        due("takes(0, -1)", x.takes(0, -1), UNLIKED);
        due("takes(0, 0) without a law", of(PLAIN).takes(0, 0), 1);
    }

    private static void promise9() {
        BeckChoice x = of(CROSSED);
        x.send(1, 0, 4);
        due("gifts(1, 0)", x.gifts(1, 0), 4);
        due("gifts(0, 1)", x.gifts(0, 1), 0);
        due("gifts(2, 0)", x.gifts(2, 0), -2);
        due("gifts(0, 2)", x.gifts(0, 2), -2);
        due("gifts(-1, 0)", x.gifts(-1, 0), -2);
    }

    private static void promise10() {
        BeckChoice x = of(WOOING);
        due("declare(1, 1)", x.declare(1, 1), NONE);
        due("declare(1, 1)", x.declare(1, 1), -12);
        due("declare(2, 1)", x.declare(2, 1), -14);
        due("declare(0, 1)", x.declare(0, 1), 1);
        due("beck(1, 0)", x.beck(1, 0), NONE);
        due("declare(0, 0): nowhere else", x.declare(0, 0), NONE);
        due("river(1, 3)", x.river(1, 3), 0);
        due("declare(3, 0)", x.declare(3, 0), -11);
        due("declare(0, 2)", x.declare(0, 2), -11);
        due("declare(-1, -1)", x.declare(-1, -1), -11);
        due("count(6)", x.count(6), 3);
        BeckChoice y = of("land;river room 0;river room 1;beck flow 1;beck flow 1;likes:2-river;takes:1-beck;");
        due("declare(0, 0) without room", y.declare(0, 0), -14);
        due("declare(1, 1): the river wouldn't", y.declare(1, 1), -13);
        BeckChoice z = of("land;river room 1;beck flow 1;beck flow 1;");
        z.declare(1, 0);
        due("declare(0, 0): the less number is liked better", z.declare(0, 0), 1);
        due("declare(1, 0)", z.declare(1, 0), -14);
    }

    private static void promise11() {
        BeckChoice x = of(PLAIN);
        due("leave(2)", x.leave(2), 1);
        due("beck(2, 0)", x.beck(2, 0), NONE);
        due("leave(2)", x.leave(2), -12);
        due("leave(3)", x.leave(3), -12);
        due("leave(4)", x.leave(4), -11);
        due("leave(-1)", x.leave(-1), -11);
        due("count(6)", x.count(6), 1);
    }

    private static void promise12() {
        BeckChoice x = of(CROSSED);
        due("send(0, 1, 9)", x.send(0, 1, 9), 9);
        due("send(0, 1, 1)", x.send(0, 1, 1), -12);
        due("send(1, 1, 4)", x.send(1, 1, 4), 4);
        due("send(1, 1, 6)", x.send(1, 1, 6), -12);
        due("send(1, 1, 5)", x.send(1, 1, 5), 9);
        due("send(0, 0, 0)", x.send(0, 0, 0), -11);
        due("send(0, 0, 10)", x.send(0, 0, 10), -11);
        due("send(0, 1, 10)", x.send(0, 1, 10), -11);
        due("send(2, 0, 1)", x.send(2, 0, 1), -11);
        due("send(0, 2, 1)", x.send(0, 2, 1), -11);
        due("count(6)", x.count(6), 3);
    }

    private static void promise13() {
        BeckChoice x = of(PLAIN);
        due("rain(2, 9)", x.rain(2, 9), 6);
        due("rain(2, 0)", x.rain(2, 0), 9);
        due("rain(2, 10)", x.rain(2, 10), -11);
        due("rain(2, -1)", x.rain(2, -1), -11);
        due("rain(4, 1)", x.rain(4, 1), -11);
        due("beck(2, 1)", x.beck(2, 1), 0);
        due("beck(2, 0)", x.beck(2, 0), 1);
        due("rain(2, 0) as it was", x.rain(2, 0), 0);
        due("count(6)", x.count(6), 3);
    }

    private static void promise14() {
        BeckChoice x = of("land;river room 3;beck flow 2 to 0;beck flow 1 to 0;beck flow 2 to 0;takes:flow;");
        due("room(0, 2): of like ones the greater number goes", x.room(0, 2), 1);
        due("river(0, 3)", x.river(0, 3), 5);
        due("room(0, 1)", x.room(0, 1), 1);
        due("river(0, 3)", x.river(0, 3), 1);
        due("room(0, 6)", x.room(0, 6), 0);
        due("room(0, 7)", x.room(0, 7), -11);
        due("room(0, -1)", x.room(0, -1), -11);
        due("room(1, 1)", x.room(1, 1), -11);
        due("room(0, 0)", x.room(0, 0), 1);
        due("count(2)", x.count(2), 7);
        due("count(3)", x.count(3), 0);
    }

    private static void promise15() {
        BeckChoice x = of(PLAIN);
        due("undo(1)", x.undo(1), -3);
        x.send(1, 1, 2);
        x.rain(0, 9);
        x.room(0, 0);
        x.declare(0, 1);
        due("undo(0)", x.undo(0), -3);
        due("undo(5)", x.undo(5), -3);
        due("undo(-1)", x.undo(-1), -3);
        due("undo(2)", x.undo(2), 2);
        due("river(0, 3)", x.river(0, 3), 3);
        due("river(0, 0)", x.river(0, 0), 2);
        due("beck(0, 1)", x.beck(0, 1), 9);
        due("undo(2)", x.undo(2), 0);
        due("beck(0, 1)", x.beck(0, 1), 5);
        due("gifts(1, 1)", x.gifts(1, 1), 0);
        for (int i = 0; i < 12; i++) {
            x.rain(0, i % 10);
        }
        due("count(6)", x.count(6), 10);
        due("undo(11)", x.undo(11), -3);
        due("undo(10)", x.undo(10), 0);
        due("beck(0, 1): the eldest two are forgotten", x.beck(0, 1), 1);
        BeckChoice y = of("land;river room 1;beck flow 2;likes:flow;");
        y.rain(0, 0);
        y.undo(1);
        due("likes(0, 0) as it was", y.likes(0, 0), 2);
    }

    private static void promise16() {
        BeckChoice x = of(PLAIN);
        due("judge(0, 0)", x.judge(0, 0), -6);
        due("judge(4, 0)", x.judge(4, 0), -2);
        due("judge(0, 4)", x.judge(0, 4), -2);
        due("judge(-1, 0)", x.judge(-1, 0), -2);
        tray(x, 0);
        due("judge of none", x.judge(0, 0), NONE);
        due("why of none", x.judge(0, 1), 0);
        due("nowhere of none", x.judge(0, 2), 8);
        due("floods of none", x.judge(0, 3), 3);
        tray(x, 1, 101, 102, 30, 31, 499, 100);
        due("judge(1, 0)", x.judge(1, 0), 4);
        due("judge(1, 1)", x.judge(1, 1), 1);
        tray(x, 1, 101, 102, 30, 31, 100, 100, 103);
        due("judge(1, 0)", x.judge(1, 0), 5);
        due("judge(1, 1)", x.judge(1, 1), 2);
        due("judge(1, 2)", x.judge(1, 2), 7);
        due("judge(1, 3)", x.judge(1, 3), 0);
        due("beck(0, 0) stays", x.beck(0, 0), 0);
        due("count(6) stays", x.count(6), 0);
        deedNumbers();
    }

    private static void deedNumbers() {
        int[][] whys = {{0, 2}, {1, 0}, {31, 4}, {10, 2}, {40, 1}, {2, 1}, {99, 1}, {100, 0}, {103, 2}, {104, 1}, {109, 1},
            {110, 1}, {199, 1}, {200, 0}, {213, 0}, {220, 1}, {204, 1}, {300, 0}, {339, 0}, {340, 1}, {400, 0}, {416, 0},
            {417, 1}, {420, 1}, {499, 1}, {500, 1}, {-1, 1}};
        for (int[] why : whys) {
            BeckChoice x = of(PLAIN);
            tray(x, 2, why[0]);
            due("judge of deed " + why[0], x.judge(2, 1), why[1]);
        }
        BeckChoice x = of(PLAIN);
        tray(x, 2, 1L << 32);
        due("judge of a deed of more than 32 bits", x.judge(2, 1), 1);
        tray(x, 2, 200, 200, 200, 200, 200, 200, 200, 200, 200, 200);
        due("judge of ten gifts", x.judge(2, 0), 9);
        due("why of ten gifts", x.judge(2, 1), 2);
    }

    private static void promise17() {
        BeckChoice x = of(PLAIN);
        due("perform(0)", x.perform(0), -6);
        due("perform(4)", x.perform(4), -2);
        due("perform(-1)", x.perform(-1), -2);
        tray(x, 0, 103, 100);
        due("perform of none that can be", x.perform(0), 0);
        due("count(6)", x.count(6), 0);
        tray(x, 0, 101, 213, 349, 305, 411, 99, 100);
        due("perform(0)", x.perform(0), 2);
        tray(x, 0, 30, 213, 338, 305, 410, 99, 100);
        due("perform(0)", x.perform(0), 5);
        due("beck(3, 0)", x.beck(3, 0), 0);
        due("gifts(1, 3)", x.gifts(1, 3), 2);
        due("beck(3, 1)", x.beck(3, 1), 8);
        due("beck(0, 1)", x.beck(0, 1), 5);
        due("river(1, 3)", x.river(1, 3), 0);
        due("count(6)", x.count(6), 2);
        due("undo(1) of all of them", x.undo(1), 1);
        due("beck(3, 0)", x.beck(3, 0), NONE);
        due("river(1, 3)", x.river(1, 3), 4);
        due("gifts(1, 3)", x.gifts(1, 3), 1);
    }

    private static void promise18() {
        BeckChoice x = of(PLAIN);
        due("year(1, 0)", x.year(1, 0), -3);
        due("year(1, 41)", x.year(1, 41), -3);
        due("year without becks", new BeckChoice().year(1, 40), 0);
        int could = 0;
        int seed = 77;
        BeckChoice y = of(PLAIN);
        for (int i = 0; i < 40; i++) {
            int[] d = new int[4];
            int v = seed;
            for (int j = 0; j < 4; j++) {
                v = 1103515245 * v + 12345;
                d[j] = v >>> 16;
                if (j == 1 && d[0] % 6 == 3 || j == 2) {
                    break;
                }
            }
            seed = v;
            int answer;
            switch (d[0] % 6) {
                case 3: answer = y.leave(d[1] % 6); break;
                case 4: answer = y.send(d[1] % 4, d[2] % 6, 1); break;
                case 5: answer = y.rain(d[1] % 6, d[2] % 10); break;
                default: answer = y.declare(d[1] % 6, d[2] % 4); break;
            }
            could += answer >= NONE ? 1 : 0;
        }
        due("year(77, 40)", x.year(77, 40), could);
        for (int what = 2; what <= 5; what++) {
            due("count(" + what + ")", x.count(what), y.count(what));
        }
        due("count(6)", x.count(6), 1);
        x.undo(1);
        due("count(5)", x.count(5), 0);
        due("count(4)", x.count(4), 15);
    }

    private static void promise19() {
        BeckChoice x = of(WOOING);
        due("holds()", x.holds(), 0);
        x.declare(0, 1);
        x.declare(1, 0);
        x.declare(2, 0);
        due("holds()", x.holds(), 1);
        x.send(0, 0, 2);
        due("holds()", x.holds(), 0);
        due("holds() where one wouldn't",
            of("land;river room 1;beck flow 1 to 0;likes:0;").holds(), 0);
        due("holds() where all wouldn't", of("land;river room 1;beck flow 1;takes:0;").holds(), 1);
    }

    private static void promise20() {
        due("breaks()", of(CROSSED).breaks(), 4);
        BeckChoice x = of(WOOING);
        x.declare(2, 1);
        due("breaks(): none for beck 2", x.breaks(), 4);
        due("breaks() without any room", of("land;river room 0;beck flow 1;").breaks(), 0);
        due("breaks() from where it wouldn't",
            of("land;river room 1;river room 1;beck flow 1 to 0;likes:river;").breaks(), 1);
    }

    private static void promise21() {
        BeckChoice x = of(WOOING);
        due("breaking()", x.breaking(), 0);
        x.declare(0, 1);
        due("breaking()", x.breaking(), 10);
        x.declare(1, 0);
        due("breaking()", x.breaking(), 20);
        x.declare(2, 0);
        due("breaking()", x.breaking(), NONE);
    }

    private static void promise22() {
        BeckChoice x = of(CROSSED);
        due("forBecks(0)", x.forBecks(0), 0);
        due("forBecks(1)", x.forBecks(1), 1);
        due("forBecks(2)", x.forBecks(2), -2);
        due("forBecks(-1)", x.forBecks(-1), -2);
        due("forBecks(3) of plain", of(PLAIN).forBecks(3), NONE);
        due("forBecks(2) of plain", of(PLAIN).forBecks(2), 1);
        due("beck(0, 0) stays", x.beck(0, 0), NONE);
    }

    private static void promise23() {
        BeckChoice x = of(CROSSED);
        due("forRivers(0)", x.forRivers(0), 1);
        due("forRivers(1)", x.forRivers(1), 0);
        due("forRivers(2)", x.forRivers(2), -2);
        due("forRivers(-1)", x.forRivers(-1), -2);
        due("forRivers(3) of plain", of(PLAIN).forRivers(3), NONE);
    }

    private static void promise24() {
        due("choices()", of(CROSSED).choices(), 2);
        due("choices()", of(WOOING).choices(), 1);
        due("choices() if none would", of("land;river room 1;beck flow 1;likes:0;").choices(), 1);
    }

    private static void promise25() {
        BeckChoice x = of(CROSSED);
        due("choice(0)", x.choice(0), 2 + 5 * 1);
        due("choice(1)", x.choice(1), 1 + 5 * 2);
        due("choice(2)", x.choice(2), NONE);
        due("choice(-1)", x.choice(-1), -3);
        due("choice(0) of plain", of(PLAIN).choice(0), 1 + 5 * 1 + 25 * 2);
    }

    private static void promise26() {
        BeckChoice x = of(CROSSED);
        due("can(0)", x.can(0), 3);
        due("can(1)", x.can(1), 3);
        due("can(2)", x.can(2), -2);
        due("can(-1)", x.can(-1), -2);
        BeckChoice y = of(PLAIN);
        due("can(0) of plain", y.can(0), 1);
        due("can(2) of plain", y.can(2), 2);
        due("can(3) of plain", y.can(3), 0);
    }

    private static void promise27() {
        due("sure()", of(CROSSED).sure(), 0);
        due("sure() of plain", of(PLAIN).sure(), 15);
        due("sure() of three", of(CROSSED.replace("likes", "beck flow 1 mark 9;likes")
            .replace("takes:", "takes:if beck=2 then 0 else 1 end*")).sure(), 4);
    }

    private static void promise28() {
        // Ranks 0 and 0 against 1 and 1; the fairer one has the greater number.
        due("fairest()", of(CROSSED).fairest(), 11);
        // Someone is nowhere in all: the first by its number.
        String three = "land;river room 1 name 1;river room 1 name 2;beck flow 3 mark 1;beck flow 3 mark 2;beck flow 3;"
            + "likes:if name=mark then 2 else 1 end;takes:if mark=0 then 0 else if name=mark then 1 else 2 end end;";
        due("fairest() with one nowhere", of(three).fairest(), 7);
        due("fairest() of plain", of(PLAIN).fairest(), 56);
    }

    private static void promise29() {
        due("fullest()", of(PLAIN).fullest(), 2 + 5 * 1 + 25 * 1);
        // What holds leaves one nowhere, the fullest doesn't.
        BeckChoice x = of("land;river room 1;river room 1;beck flow 1;beck flow 1;"
            + "likes:if beck=1 and river=1 then 0 else 2-river end;");
        due("choice(0)", x.choice(0), 1);
        due("fullest()", x.fullest(), 2 + 5);
        due("fullest() if none would", of("land;river room 1;beck flow 1;likes:0;").fullest(), 0);
        due("fullest() without room", of("land;river room 0;beck flow 1;").fullest(), 0);
    }

    private static void promise30() {
        BeckChoice x = of(CROSSED);
        due("gains(0)", x.gains(0), 0);
        due("gains(1)", x.gains(1), 1);
        due("gains(2)", x.gains(2), -2);
        due("gains(-1)", x.gains(-1), -2);
        due("gains(0) of wooing", of(WOOING).gains(0), NONE);
        due("gains(3) of plain", of(PLAIN).gains(3), NONE);
    }

    private static void promise31() {
        BeckChoice x = of(CROSSED);
        due("lie(0)", x.lie(0), 1);
        due("lie(1)", x.lie(1), 2);
        due("lie(2)", x.lie(2), -2);
        due("lie(-1)", x.lie(-1), -2);
        due("lie(0) of wooing", of(WOOING).lie(0), NONE);
    }

    private static void promise32() {
        due("liars()", of(CROSSED).liars(), 3);
        due("liars() of plain", of(PLAIN).liars(), 0);
        due("liars() of none", new BeckChoice().liars(), 0);
        // The two pairs of CROSSED with names and marks 1 to 4: each pair would rather stay as its becks like it.
        due("liars() of six", of("land;river room 1 name 1;river room 1 name 2;river room 1 name 3;river room 1 name 4;"
            + "beck flow 1 mark 1;beck flow 1 mark 2;beck flow 1 mark 3;beck flow 1 mark 4;beck flow 0;beck flow 0;"
            + "likes:if name=mark then 9 else if name+mark=3 or name+mark=7 and name>2 then 5 else 1 end end;"
            + "takes:if flow=0 then 0 else if name=mark then 1 else if name+mark=3 or name+mark=7 and name>2 then 9"
            + " else 1 end end end;").liars(), 15);
    }

    private static void promise33() {
        BeckChoice x = of(WOOING);
        due("woos(0, 5, 0)", x.woos(0, 5, 0), 0);
        due("woos(0, 5, 12)", x.woos(0, 5, 12), 0);
        due("woos(0, 6, 0)", x.woos(0, 6, 0), 2);
        due("woos(0, 6, 10)", x.woos(0, 6, 10), 2);
        due("woos(0, 6, 11)", x.woos(0, 6, 11), 0);
        due("woos(0, 8, 0)", x.woos(0, 8, 0), 4);
        due("woos(0, 8, 11)", x.woos(0, 8, 11), 2);
        due("woos(0, 9, 0)", x.woos(0, 9, 0), NONE);
        due("woos(0, 9, 10)", x.woos(0, 9, 10), NONE);
        due("woos(2, 9, 0)", x.woos(2, 9, 0), -2);
        due("woos(0, 9, 13)", x.woos(0, 9, 13), -2);
        due("woos(0, 9, 1)", x.woos(0, 9, 1), -2);
        due("woos(0, 9, 9)", x.woos(0, 9, 9), -2);
        due("woos(0, 100, 1)", x.woos(0, 100, 1), -2);
        due("woos(0, 100, 0)", x.woos(0, 100, 0), -3);
        due("woos(0, -1, 0)", x.woos(0, -1, 0), -3);
        due("woos(0, 0, 0)", x.woos(0, 0, 0), 0);
        x.send(0, 0, 8);
        due("woos(0, 8, 0) with gifts sent", x.woos(0, 8, 0), 2);
        due("gifts(0, 1) stay", x.gifts(0, 1), 0);
        // Nine in all: a beck that has eight can have but one more.
        BeckChoice y = of("land;river room 1;beck flow 4;likes:gifts-8;");
        due("woos by nine", y.woos(0, 4, 0), 9);
        BeckChoice z = of("land;river room 2;beck flow 4;beck flow 4;likes:gifts-4;");
        due("woos by ten", z.woos(0, 8, 0), NONE);
        due("woos: less for beck 0 first", z.woos(0, 4, 10), 0);
        due("woos: less for beck 0 first", z.woos(0, 4, 11), 5);
    }

    private static void promise34() {
        BeckChoice x = of(PLAIN);
        due("floods()", x.floods(), 3);
        x.rain(2, 4);
        due("floods() at what it bears", x.floods(), 1);
        x.leave(0);
        due("floods()", x.floods(), 0);
    }

    private static void promise35() {
        BeckChoice x = of(PLAIN);
        due("turnOff(0)", x.turnOff(0), 2);
        due("turnOff(1)", x.turnOff(1), 5);
        due("turnOff(2)", x.turnOff(2), -2);
        due("turnOff(-1)", x.turnOff(-1), -2);
        x.leave(0);
        x.leave(2);
        due("turnOff(0)", x.turnOff(0), 0);
        due("turnOff(1)", x.turnOff(1), 0);
        BeckChoice y = of("land;river room 3 bears 7;beck flow 1 to 0;beck flow 2 to 0;beck flow 6 to 0;");
        due("turnOff(1): the fewest", y.turnOff(1), 2);
        BeckChoice z = of("land;river room 3 bears 0;beck flow 0 to 0;beck flow 2 to 0;beck flow 6 to 0;");
        due("turnOff(1): flows of 0 stay", z.turnOff(1), 6);
    }

    private static void promise36() {
        BeckChoice x = of(CROSSED);
        due("bearing(0)", x.bearing(0), 4);
        due("bearing(1)", x.bearing(1), 4);
        due("bearing(2)", x.bearing(2), -2);
        due("bearing(-1)", x.bearing(-1), -2);
        due("bearing(0) of plain", of(PLAIN).bearing(0), 8);
        due("bearing(0) if none would", of("land;river room 1;beck flow 1;likes:0;").bearing(0), 0);
    }

    private static void promise37() {
        BeckChoice x = of(CROSSED);
        due("marks(0, 0)", x.marks(0, 0), -6);
        due("marks(4, 0)", x.marks(4, 0), -2);
        due("marks(0, 2)", x.marks(0, 2), -2);
        tray(x, 0, 0);
        due("marks of one number", x.marks(0, 0), -4);
        tray(x, 0, 5, 5, 5);
        due("marks of three numbers", x.marks(0, 0), -4);
        tray(x, 0, 0, 2);
        due("marks of no river", x.marks(0, 0), -3);
        tray(x, 0, -2, 0);
        due("marks of less than NONE", x.marks(0, 0), -3);
        tray(x, 0, 0, 1L << 32);
        due("marks of more than 32 bits", x.marks(0, 0), -3);
        tray(x, 0, 1, 1);
        due("marks of two for one room", x.marks(0, 0), -3);
        tray(x, 0, 0, 1);
        // With mark 2 beck 0 would like river 1 better, and be liked there as beck 1 is, with the less number.
        due("marks(0, 0)", x.marks(0, 0), 1023 - 4);
        // With mark 1 beck 1 would like river 0 better, but not be liked there better; with others it would be.
        due("marks(0, 1)", x.marks(0, 1), 2 + 4);
        tray(x, 0, NONE, NONE);
        due("marks if there is room", x.marks(0, 0), 0);
        due("beck(0, 2) stays", x.beck(0, 2), 1);
    }

    private static void promise38() {
        BeckChoice x = of("land;river room 1;river room 1;river room 1;beck flow 1;"
            + "likes:if river=0 then 9 else if river=1 then mark-6 else mark-2 end end;");
        tray(x, 0, 0);
        due("marks(0, 0)", x.marks(0, 0), 1023);
        // River 0: ten would; river 1: 7 to 9 would; river 2: 3 to 9 would: three each, the first one.
        due("ask(0, 0)", x.ask(0, 0), 1);
        tray(x, 0, 1);
        due("marks(0, 0) of river 1", x.marks(0, 0), 0);
        due("ask(0, 0) of no marks", x.ask(0, 0), NONE);
        due("ask(1, 0)", x.ask(1, 0), -6);
        due("ask(4, 0)", x.ask(4, 0), -2);
        due("ask(0, 1)", x.ask(0, 1), -2);
        tray(x, 0, 3);
        due("ask of no river", x.ask(0, 0), -3);
        tray(x, 0);
        due("ask of no numbers", x.ask(0, 0), -4);
        BeckChoice y = of("land;beck flow 1;");
        tray(y, 0, NONE);
        due("marks without rivers", y.marks(0, 0), 1023);
        due("ask without rivers", y.ask(0, 0), NONE);
    }

    private static void promise39() {
        BeckChoice x = of(PLAIN);
        // Beck 0 never runs dry, beck 1 in 2 of 10: 8 above 7 in 8 of 10.
        due("flooding(0, 0)", x.flooding(0, 0), 4);
        due("flooding(0, 1)", x.flooding(0, 1), 5);
        due("flooding(1, 0)", x.flooding(1, 0), 1);
        due("flooding(1, 1)", x.flooding(1, 1), 2);
        due("flooding(0, 2)", x.flooding(0, 2), -2);
        due("flooding(0, -1)", x.flooding(0, -1), -2);
        due("flooding(2, 0)", x.flooding(2, 0), -2);
        x.leave(2);
        due("flooding(1, 0)", x.flooding(1, 0), 0);
        due("flooding(1, 1)", x.flooding(1, 1), 1);
        BeckChoice y = of("land;river room 6 bears 0;beck flow 1 dry 1 to 0;beck flow 1 dry 1 to 0;beck flow 1 dry 1 to 0;"
            + "beck flow 1 dry 1 to 0;beck flow 1 dry 1 to 0;beck flow 1 dry 1 to 0;");
        due("flooding unless all are dry", y.flooding(0, 0), 999999);
        due("flooding unless all are dry", y.flooding(0, 1), 1000000);
    }

    private static void promise40() {
        BeckChoice x = of(WOOING.replace("flow 5", "flow 5 dry 3").replace("flow 3", "flow 3 dry 5"));
        // Beck 0 has river 1 whenever it runs; beck 1 has it when beck 0 is dry, so it stays when both run.
        due("staying(0, 0)", x.staying(0, 0), 7);
        due("staying(0, 1)", x.staying(0, 1), 10);
        due("staying(1, 0)", x.staying(1, 0), 7);
        due("staying(1, 1)", x.staying(1, 1), 20);
        // Beck 2 stays unless both are dry.
        due("staying(2, 0)", x.staying(2, 0), 17);
        due("staying(2, 1)", x.staying(2, 1), 20);
        due("staying(3, 0)", x.staying(3, 0), -2);
        due("staying(0, 2)", x.staying(0, 2), -2);
        due("staying(3, 0) of plain", of(PLAIN).staying(3, 0), 0);
        due("staying(3, 1) of plain", of(PLAIN).staying(3, 1), 1);
        due("staying always", of("land;river room 1;beck flow 1;").staying(0, 0), 1);
        due("staying never", of("land;river room 1;beck flow 1 dry 10;").staying(0, 0), 0);
        due("staying never", of("land;river room 1;beck flow 1 dry 10;").staying(0, 1), 1);
    }

    private static void promise41() {
        BeckChoice x = new BeckChoice();
        due("numbers(0, 0, 40)", x.numbers(0, 0, 40), 0);
        due("write(0, 39, 5)", x.write(0, 39, 5), 5);
        due("numbers(0, 0, 41)", x.numbers(0, 0, 41), -3);
        due("numbers(0, 0, -1)", x.numbers(0, 0, -1), -3);
        due("write(0, 39, 6) as it stays", x.write(0, 39, 6), 6);
        due("numbers(4, 0, 1)", x.numbers(4, 0, 1), -2);
        due("numbers(-1, 0, 1)", x.numbers(-1, 0, 1), -2);
        due("numbers(0, 4, 1)", x.numbers(0, 4, 1), -2);
        due("numbers(0, -1, 1)", x.numbers(0, -1, 1), -2);
        due("numbers(0, 4, 41)", x.numbers(0, 4, 41), -2);
        due("numbers(3, 3, 0)", x.numbers(3, 3, 0), 0);
        due("perform of no numbers", x.perform(3), 0);
        BeckChoice y = of(PLAIN);
        tray(y, 0, 100);
        due("numbers in place", y.numbers(0, 1, 1), 0);
        due("all 0: beck 0 is there", y.judge(0, 1), 2);
    }

    private static void promise42() {
        BeckChoice x = new BeckChoice();
        due("write(0, 0, 1)", x.write(0, 0, 1), -6);
        due("write(4, 0, 1)", x.write(4, 0, 1), -2);
        due("write(-1, 0, 1)", x.write(-1, 0, 1), -2);
        long v = 0x1234567887654321L;
        long[] cut = {0x21, 0x4321, (int) 0x87654321L, v};
        for (int sort = 0; sort < 4; sort++) {
            x.numbers(sort, sort, 2);
            due("write of sort " + sort, x.write(sort, 1, v), cut[sort]);
            due("write of -1", x.write(sort, 1, -1), -1);
            due("write(2)", x.write(sort, 2, v), -7);
            due("write(-1)", x.write(sort, -1, v), -7);
        }
        due("write of 200 in 8 bits", x.write(0, 0, 200), -56);
    }

    private static void promise43() {
        BeckChoice x = of(CROSSED);
        due("lists(0, 0)", x.lists(0, 0), -6);
        due("lists(4, 0)", x.lists(4, 0), -2);
        due("lists(0, 2)", x.lists(0, 2), -2);
        due("lists(0, -1)", x.lists(0, -1), -2);
        tray(x, 0, 9, 9);
        due("lists(0, 0)", x.lists(0, 0), 2);
        due("marks by the list", x.marks(0, 0) >> 1 & 1, 1);
        due("lists(0, 1)", x.lists(0, 1), 2);
        due("marks by the list", x.marks(0, 0) >> 1 & 1, 1);
        tray(x, 0, 9);
        due("lists into one place", x.lists(0, 0), 1);
        due("it is river 0, as deed 0", x.judge(0, 0), NONE);
        tray(x, 0, 9, 9, 9);
        due("lists into three places", x.lists(0, 1), 2);
        due("the third is as it was, as deed 9", x.judge(0, 0), 2);
        due("lists of no places", x.numbers(1, 0, 0) == 0 ? x.lists(1, 0) : 1, 0);
        // Beck 3 is nowhere: its number is no deed.
        BeckChoice y = of(PLAIN);
        y.leave(0);
        tray(y, 0, 9, 9, 9, 9);
        due("lists(0, 0) of plain", y.lists(0, 0), 4);
        due("by it plain holds", y.marks(0, 0), 1023);
    }

    private static void promise44() {
        BeckChoice x = of(CROSSED);
        due("image(0)", x.image(0), 0);
        due("image(1)", x.image(1), 0);
        due("image(2)", x.image(2), -2);
        due("image(-1)", x.image(-1), -2);
        x.rain(0, 9);
        due("count(6) stays", x.count(6), 1);
        x.image(1);
        due("count(6) stays", x.count(6), 1);
        x.restore(0);
        due("beck(0, 1)", x.beck(0, 1), 3);
        x.restore(1);
        due("beck(0, 1)", x.beck(0, 1), 9);
    }

    private static void promise45() {
        BeckChoice x = new BeckChoice();
        due("restore(0)", x.restore(0), -5);
        due("restore(2)", x.restore(2), -2);
        due("restore(-1)", x.restore(-1), -2);
        x.image(1);
        land(x, CROSSED);
        x.send(1, 1, 3);
        x.room(0, 5);
        x.declare(0, 1);
        x.image(0);
        land(x, PLAIN);
        x.leave(0);
        feed(x, "land;");
        due("restore(0)", x.restore(0), 0);
        due("count(0)", x.count(0), 2);
        due("count(6)", x.count(6), 0);
        due("undo(1)", x.undo(1), -3);
        due("count(7) stays", x.count(7), 20);
        due("count(8)", x.count(8), 7);
        due("gifts(1, 1)", x.gifts(1, 1), 3);
        due("river(0, 0)", x.river(0, 0), 5);
        due("river(0, 2)", x.river(0, 2), 3);
        due("beck(0, 0)", x.beck(0, 0), 1);
        due("beck(1, 4)", x.beck(1, 4), 3);
        due("likes(0, 0)", x.likes(0, 0), 2);
        x.leave(0);
        due("restore(0) again", x.restore(0), 0);
        due("beck(0, 0)", x.beck(0, 0), 1);
        due("restore(1) of no land", x.restore(1), 0);
        due("count(0)", x.count(0), 0);
        due("count(8)", x.count(8), 0);
    }

    private static void promise46() {
        BeckChoice x = of(PLAIN);
        x.send(0, 1, 2);
        x.send(1, 3, 5);
        feed(x, "la");
        long[] want = {4, 2, 8, 3, 15, 7, 2, 20, 7, NONE};
        for (int what = 0; what < want.length; what++) {
            due("count(" + what + ")", x.count(what), want[what]);
        }
        due("count(-1)", x.count(-1), NONE);
    }

    private static void run(int p) {
        promise = p;
        switch (p) {
            case 1: promise1(); break;
            case 2: promise2(); break;
            case 3: promise3(); break;
            case 4: promise4(); break;
            case 5: promise5(); break;
            case 6: promise6(); break;
            case 7: promise7(); break;
            case 8: promise8(); break;
            case 9: promise9(); break;
            case 10: promise10(); break;
            case 11: promise11(); break;
            case 12: promise12(); break;
            case 13: promise13(); break;
            case 14: promise14(); break;
            case 15: promise15(); break;
            case 16: promise16(); break;
            case 17: promise17(); break;
            case 18: promise18(); break;
            case 19: promise19(); break;
            case 20: promise20(); break;
            case 21: promise21(); break;
            case 22: promise22(); break;
            case 23: promise23(); break;
            case 24: promise24(); break;
            case 25: promise25(); break;
            case 26: promise26(); break;
            case 27: promise27(); break;
            case 28: promise28(); break;
            case 29: promise29(); break;
            case 30: promise30(); break;
            case 31: promise31(); break;
            case 32: promise32(); break;
            case 33: promise33(); break;
            case 34: promise34(); break;
            case 35: promise35(); break;
            case 36: promise36(); break;
            case 37: promise37(); break;
            case 38: promise38(); break;
            case 39: promise39(); break;
            case 40: promise40(); break;
            case 41: promise41(); break;
            case 42: promise42(); break;
            case 43: promise43(); break;
            case 44: promise44(); break;
            case 45: promise45(); break;
            default: promise46(); break;
        }
    }

    public static void main(String[] args) {
        for (int p = 1; p <= 46; p++) {
            run(p);
        }
        System.out.println(wrong == 0 ? "all 46 promises are as due" : wrong + " answers are not as due");
        if (wrong != 0) {
            System.exit(1);
        }
    }
}
