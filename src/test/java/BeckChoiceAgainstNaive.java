import java.util.ArrayList;
import java.util.List;
import java.util.Random;

/** Runs of calls by chance, with the same seeds each time, on the class and on the plainest reading of the document. */
public final class BeckChoiceAgainstNaive {
    private static final int SHOWN_MOST = 5;
    private static final int[] FAR = {Integer.MIN_VALUE, Integer.MAX_VALUE, Integer.MIN_VALUE + 9, -10, 31, 32, 64, 99,
        100, 256, 1000000};
    private static int wrong = 0;
    private static long compared = 0;

    private final Random random;
    private final LandMaker maker;
    private final BeckChoice x = new BeckChoice();
    private final NaiveChoice y = new NaiveChoice();
    private final List<String> told = new ArrayList<>();
    private final int run;
    private final int becksMost;
    private final int riversMost;
    private final boolean dear;
    private boolean failed = false;

    private BeckChoiceAgainstNaive(int run, int becksMost, int riversMost, boolean dear) {
        this.run = run;
        this.random = new Random(run * 7919L + 17);
        this.maker = new LandMaker(random);
        this.becksMost = becksMost;
        this.riversMost = riversMost;
        this.dear = dear;
    }

    private void due(String call, long got, long want) {
        compared++;
        told.add(call + " -> " + got);
        if (got != want && !failed) {
            failed = true;
            wrong++;
            if (wrong > SHOWN_MOST) {
                return;
            }
            System.out.println("run " + run + ": " + call + " answered " + got + ", due is " + want);
            for (int i = Math.max(0, told.size() - 12); i < told.size(); i++) {
                System.out.println("    " + told.get(i));
            }
        }
    }

    private int upTo(int most) {
        return random.nextInt(most + 1);
    }

    /** From one below 0 to one above most; seldom what is far off. */
    private int near(int most) {
        if (upTo(40) == 0) {
            return FAR[upTo(FAR.length - 1)];
        }
        return upTo(most + 2) - 1;
    }

    private void feedText(String text, boolean exact) {
        byte[] bytes = new byte[(text.length() + 19) / 20 * 20];
        java.util.Arrays.fill(bytes, (byte) 32);
        for (int i = 0; i < text.length(); i++) {
            bytes[i] = (byte) text.charAt(i);
        }
        for (int i = 0; i < bytes.length; i += 20) {
            int[] v = new int[5];
            for (int j = 0; j < 20; j++) {
                v[j / 4] = v[j / 4] << 8 | bytes[i + j] & 255;
            }
            due("feed", x.feed(v[0], v[1], v[2], v[3], v[4]), y.feed(v[0], v[1], v[2], v[3], v[4]));
        }
        int n = exact ? text.length() : near(text.length());
        due("land(" + n + ") of " + text, x.land(n), y.land(n));
        due("fault(0)", x.fault(0), y.fault(0));
        due("fault(1)", x.fault(1), y.fault(1));
        due("count(7)", x.count(7), y.count(7));
        due("count(8)", x.count(8), y.count(8));
    }

    private void newLand() {
        String text = maker.make(becksMost, riversMost);
        for (int i = 0; i < 20 && text.length() > 900; i++) {
            text = maker.make(becksMost, riversMost);
        }
        if (text.length() <= 900) {
            feedText(text, true);
        }
    }

    private void spoiledLand() {
        String text = upTo(3) == 0 ? maker.soup() : upTo(2) == 0 ? maker.overdone()
            : maker.spoil(maker.make(becksMost, riversMost));
        if (text.length() <= 900) {
            feedText(text, upTo(3) > 0);
        }
    }

    private void lookAtAll() {
        for (int b = -1; b <= y.count(0); b++) {
            for (int what = -1; what <= 5; what++) {
                due("beck(" + b + ", " + what + ")", x.beck(b, what), y.beck(b, what));
            }
            for (int r = -1; r <= y.count(1); r++) {
                due("likes(" + b + ", " + r + ")", x.likes(b, r), y.likes(b, r));
                due("takes(" + r + ", " + b + ")", x.takes(r, b), y.takes(r, b));
                due("gifts(" + r + ", " + b + ")", x.gifts(r, b), y.gifts(r, b));
            }
        }
        for (int r = -1; r <= y.count(1); r++) {
            for (int what = -1; what <= 6; what++) {
                due("river(" + r + ", " + what + ")", x.river(r, what), y.river(r, what));
            }
        }
        for (int what = -1; what <= 9; what++) {
            due("count(" + what + ")", x.count(what), y.count(what));
        }
        due("fault(2)", x.fault(2), y.fault(2));
        due("holds()", x.holds(), y.holds());
        due("breaks()", x.breaks(), y.breaks());
        due("breaking()", x.breaking(), y.breaking());
        due("floods()", x.floods(), y.floods());
        for (int what = -1; what <= 2; what++) {
            due("turnOff(" + what + ")", x.turnOff(what), y.turnOff(what));
        }
    }

    private void lookAtChoices() {
        due("choices()", x.choices(), y.choices());
        for (int k = -1; k <= y.choices(); k++) {
            due("choice(" + k + ")", x.choice(k), y.choice(k));
        }
        due("sure()", x.sure(), y.sure());
        due("fairest()", x.fairest(), y.fairest());
        due("fullest()", x.fullest(), y.fullest());
        for (int b = -1; b <= y.count(0); b++) {
            due("forBecks(" + b + ")", x.forBecks(b), y.forBecks(b));
            due("forRivers(" + b + ")", x.forRivers(b), y.forRivers(b));
            due("can(" + b + ")", x.can(b), y.can(b));
            for (int what = -1; what <= 2; what++) {
                due("staying(" + b + ", " + what + ")", x.staying(b, what), y.staying(b, what));
            }
        }
        for (int r = -1; r <= y.count(1); r++) {
            due("bearing(" + r + ")", x.bearing(r), y.bearing(r));
            for (int what = -1; what <= 2; what++) {
                due("flooding(" + r + ", " + what + ")", x.flooding(r, what), y.flooding(r, what));
            }
        }
        if (dear) {
            lookAtDear();
        }
    }

    private void lookAtDear() {
        due("liars()", x.liars(), y.liars());
        for (int b = -1; b <= y.count(0); b++) {
            due("gains(" + b + ")", x.gains(b), y.gains(b));
            due("lie(" + b + ")", x.lie(b), y.lie(b));
        }
        if (y.count(0) * y.count(1) > 16) {
            return;
        }
        int r = near(3);
        int enough = upTo(9) == 0 ? near(99) : upTo(20);
        due("woos(" + r + ", " + enough + ", 0)", x.woos(r, enough, 0), y.woos(r, enough, 0));
        int what = upTo(3) == 0 ? near(20) : 10 + near(3);
        due("woos(" + r + ", " + enough + ", " + what + ")", x.woos(r, enough, what), y.woos(r, enough, what));
    }

    private void deed() {
        int a = near(Math.max(1, y.count(0) - 1));
        int b = near(Math.max(1, y.count(1) - 1));
        switch (upTo(6)) {
            case 0:
            case 1:
                due("declare(" + a + ", " + b + ")", x.declare(a, b), y.declare(a, b));
                break;
            case 2:
                due("leave(" + a + ")", x.leave(a), y.leave(a));
                break;
            case 3:
                int n = near(upTo(1) == 0 ? 9 : 3);
                due("send(" + b + ", " + a + ", " + n + ")", x.send(b, a, n), y.send(b, a, n));
                break;
            case 4:
                int flow = near(9);
                due("rain(" + a + ", " + flow + ")", x.rain(a, flow), y.rain(a, flow));
                break;
            case 5:
                int room = near(6);
                due("room(" + b + ", " + room + ")", x.room(b, room), y.room(b, room));
                break;
            default:
                int seed = random.nextInt();
                int times = near(40);
                due("year(" + seed + ", " + times + ")", x.year(seed, times), y.year(seed, times));
                break;
        }
    }

    private void undo() {
        int n = upTo(1) == 0 ? near(10) : 1 + upTo(2);
        due("undo(" + n + ")", x.undo(n), y.undo(n));
    }

    private long deedNumber() {
        int a = Math.max(1, y.count(0) - 1);
        int b = Math.max(1, y.count(1) - 1);
        switch (upTo(7)) {
            case 0: return 100 + upTo(a);
            case 1: return 200 + 10 * upTo(b) + upTo(a);
            case 2: return 300 + 10 * upTo(a) + upTo(9);
            case 3: return 400 + 10 * upTo(b) + upTo(7);
            case 4: return upTo(2) == 0 ? random.nextInt(520) - 10 : 10 * upTo(a) + upTo(b);
            default: return 10 * upTo(a) + upTo(b);
        }
    }

    private void write(int tray, int i, long v) {
        due("write(" + tray + ", " + i + ", " + v + ")", x.write(tray, i, v), y.write(tray, i, v));
    }

    private void numbers(int tray, int sort, int n) {
        due("numbers(" + tray + ", " + sort + ", " + n + ")", x.numbers(tray, sort, n), y.numbers(tray, sort, n));
    }

    private void deedTray() {
        int tray = near(3);
        int n = upTo(9) == 0 ? near(40) : upTo(6);
        numbers(tray, upTo(9) == 0 ? near(3) : 1 + upTo(2), n);
        for (int i = 0; i < n && i < 41; i++) {
            write(tray, i, deedNumber());
        }
        for (int what = -1; what <= 4; what++) {
            due("judge(" + tray + ", " + what + ")", x.judge(tray, what), y.judge(tray, what));
        }
        due("perform(" + tray + ")", x.perform(tray), y.perform(tray));
    }

    private void answers() {
        int tray = upTo(3);
        int becks = y.count(0);
        int n = upTo(9) == 0 ? near(6) : becks;
        int sort = upTo(3);
        numbers(tray, sort, n);
        if (upTo(2) > 0) {
            int what = near(upTo(4) == 0 ? 2 : 0);
            due("lists(" + tray + ", " + what + ")", x.lists(tray, what), y.lists(tray, what));
        }
        if (upTo(2) > 0) {
            write(tray, near(6), upTo(5) == 0 ? random.nextLong() : near(3));
        }
        if (upTo(2) == 0) {
            for (int i = 0; i < n && i < 41; i++) {
                write(tray, i, y.beck(i, 0));
            }
        }
        for (int b = -1; b <= becks; b++) {
            due("marks(" + tray + ", " + b + ")", x.marks(tray, b), y.marks(tray, b));
            due("ask(" + tray + ", " + b + ")", x.ask(tray, b), y.ask(tray, b));
        }
    }

    private void images() {
        int i = near(1);
        if (upTo(1) == 0) {
            due("image(" + i + ")", x.image(i), y.image(i));
        } else {
            due("restore(" + i + ")", x.restore(i), y.restore(i));
        }
    }

    private void trayEdges() {
        int tray = near(4);
        int i = near(41);
        write(tray, i, random.nextLong());
        due("judge(" + tray + ", 0)", x.judge(tray, 0), y.judge(tray, 0));
        due("lists(" + tray + ", 0)", x.lists(tray, 0), y.lists(tray, 0));
        due("marks(" + tray + ", 0)", x.marks(tray, 0), y.marks(tray, 0));
        due("perform(" + tray + ")", x.perform(tray), y.perform(tray));
    }

    private void play(int steps) {
        lookAtAll();
        lookAtChoices();
        newLand();
        for (int i = 0; i < steps && !failed; i++) {
            switch (upTo(24)) {
                case 0: newLand(); break;
                case 1: spoiledLand(); break;
                case 2:
                case 15: images(); break;
                case 3:
                case 4: undo(); break;
                case 5:
                case 6: deedTray(); break;
                case 7:
                case 8: answers(); break;
                case 9: trayEdges(); break;
                case 10:
                case 11: lookAtChoices(); break;
                case 12:
                case 13:
                case 14: lookAtAll(); break;
                default: deed(); break;
            }
        }
        lookAtAll();
        lookAtChoices();
    }

    private void playTexts(int many) {
        for (int i = 0; i < many && !failed; i++) {
            spoiledLand();
        }
    }

    public static void main(String[] args) {
        int scale = args.length > 0 ? Integer.parseInt(args[0]) : 1;
        int run = 1;
        for (int i = 0; i < 150 * scale; i++) {
            new BeckChoiceAgainstNaive(run++, 4, 3, true).play(60);
        }
        for (int i = 0; i < 150 * scale; i++) {
            new BeckChoiceAgainstNaive(run++, 4, 4, true).play(60);
        }
        for (int i = 0; i < 40 * scale; i++) {
            new BeckChoiceAgainstNaive(run++, 6, 4, true).play(20);
        }
        for (int i = 0; i < 12 * scale; i++) {
            new BeckChoiceAgainstNaive(run++, 6, 1 + i % 2, true).play(12);
        }
        for (int i = 0; i < 60 * scale; i++) {
            new BeckChoiceAgainstNaive(run++, 5, 2, true).play(20);
        }
        for (int i = 0; i < 300 * scale; i++) {
            new BeckChoiceAgainstNaive(run++, 6, 4, false).playTexts(100);
        }
        System.out.println(compared + " answers compared, " + wrong + " runs with a wrong one");
        if (wrong != 0) {
            System.exit(1);
        }
    }
}
