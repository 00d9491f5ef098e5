import java.io.ByteArrayOutputStream;
import java.util.ArrayList;
import java.util.Arrays;
import java.util.List;
import java.util.function.IntBinaryOperator;

/** The document's words done in the plainest way, by going through all choices, to check the class against it. */
final class NaiveChoice {
    static final int NONE = -1;

    /** What can be undone. */
    private static final class State {
        int[] where = new int[0];
        int[] flow = new int[0];
        int[] room = new int[0];
        int[][] gifts = new int[0][0];

        State copy() {
            State s = new State();
            s.where = where.clone();
            s.flow = flow.clone();
            s.room = room.clone();
            s.gifts = new int[gifts.length][];
            for (int i = 0; i < gifts.length; i++) {
                s.gifts[i] = gifts[i].clone();
            }
            return s;
        }
    }

    private ByteArrayOutputStream tape = new ByteArrayOutputStream();
    private NaiveText land = null;
    private int fault = 0;
    private int faultPlace = NONE;
    private State state = new State();
    private final List<State> past = new ArrayList<>();
    private final NaiveText[] imageLand = new NaiveText[2];
    private final State[] imageState = new State[2];
    private final long[][] trays = new long[4][];
    private final int[] sorts = new int[4];
    private int markOf = NONE;
    private int markIs;

    private int becks() {
        return land == null ? 0 : land.becks.size();
    }

    private int rivers() {
        return land == null ? 0 : land.rivers.size();
    }

    private boolean beckIs(int b) {
        return b >= 0 && b < becks();
    }

    private boolean riverIs(int r) {
        return r >= 0 && r < rivers();
    }

    // ---- the land

    int feed(int a, int b, int c, int d, int e) {
        if (tape.size() + 20 > 900) {
            return -5;
        }
        for (int v : new int[] {a, b, c, d, e}) {
            tape.write(v >>> 24);
            tape.write(v >>> 16);
            tape.write(v >>> 8);
            tape.write(v);
        }
        return tape.size();
    }

    int land(int n) {
        if (n < 0 || n > tape.size()) {
            return -3;
        }
        NaiveText t = new NaiveText(Arrays.copyOf(tape.toByteArray(), n));
        tape = new ByteArrayOutputStream();
        fault = t.fault;
        faultPlace = t.faultPlace;
        if (fault != 0) {
            return -30 - fault;
        }
        land = t;
        state = new State();
        state.where = t.becks.stream().mapToInt(x -> x[3]).toArray();
        state.flow = t.becks.stream().mapToInt(x -> x[0]).toArray();
        state.room = t.rivers.stream().mapToInt(x -> x[0]).toArray();
        state.gifts = new int[rivers()][becks()];
        past.clear();
        return t.lines;
    }

    int fault(int what) {
        return what == 0 ? fault : what == 1 ? faultPlace : NONE;
    }

    private NaiveText.Asked asked(int b, int r) {
        int mark = b == markOf ? markIs : land.becks.get(b)[1];
        return new NaiveText.Asked(b, state.flow[b], mark, r, land.rivers.get(r)[1], state.gifts[r][b]);
    }

    private int liking(int b, int r) {
        return (int) land.likes.applyAsLong(asked(b, r));
    }

    private int taking(int r, int b) {
        return (int) land.takes.applyAsLong(asked(b, r));
    }

    private boolean would(int b, int r) {
        return liking(b, r) > 0 && taking(r, b) > 0;
    }

    private boolean beckRather(int b, int r, int than) {
        int x = liking(b, r);
        int y = liking(b, than);
        return x != y ? x > y : r < than;
    }

    private boolean riverRather(int r, int b, int than) {
        int x = taking(r, b);
        int y = taking(r, than);
        return x != y ? x > y : b < than;
    }

    private List<Integer> those(int[] where, int r) {
        List<Integer> list = new ArrayList<>();
        for (int b = 0; b < becks(); b++) {
            if (where[b] == r) {
                list.add(b);
            }
        }
        return list;
    }

    private int least(int r) {
        List<Integer> list = those(state.where, r);
        list.sort((x, y) -> riverRather(r, x, y) ? -1 : x.equals(y) ? 0 : 1);
        return list.isEmpty() ? NONE : list.get(list.size() - 1);
    }

    private static int bits(List<Integer> list) {
        int s = 0;
        for (int x : list) {
            s |= 1 << x;
        }
        return s;
    }

    private int flowIn(int[] where, int r) {
        return those(where, r).stream().mapToInt(b -> state.flow[b]).sum();
    }

    int beck(int b, int what) {
        if (!beckIs(b) || what < 0 || what > 4) {
            return -2;
        }
        if (what == 4) {
            int s = 0;
            for (int r = 0; r < rivers(); r++) {
                s |= would(b, r) ? 1 << r : 0;
            }
            return s;
        }
        return new int[] {state.where[b], state.flow[b], land.becks.get(b)[1], land.becks.get(b)[2]}[what];
    }

    int river(int r, int what) {
        if (!riverIs(r) || what < 0 || what > 5) {
            return -2;
        }
        return new int[] {state.room[r], land.rivers.get(r)[1], land.rivers.get(r)[2], bits(those(state.where, r)),
            flowIn(state.where, r), least(r)}[what];
    }

    int likes(int b, int r) {
        return beckIs(b) && riverIs(r) ? liking(b, r) : -99000002;
    }

    int takes(int r, int b) {
        return beckIs(b) && riverIs(r) ? taking(r, b) : -99000002;
    }

    int gifts(int r, int b) {
        return beckIs(b) && riverIs(r) ? state.gifts[r][b] : -2;
    }

    // ---- deeds

    private int doDeclare(int b, int r) {
        if (!beckIs(b) || !riverIs(r)) {
            return -11;
        }
        if (state.where[b] == r) {
            return -12;
        }
        if (!would(b, r)) {
            return -13;
        }
        if (those(state.where, r).size() < state.room[r]) {
            state.where[b] = r;
            return NONE;
        }
        int out = least(r);
        if (out == NONE || riverRather(r, out, b)) {
            return -14;
        }
        state.where[out] = NONE;
        state.where[b] = r;
        return out;
    }

    private int doLeave(int b) {
        if (!beckIs(b)) {
            return -11;
        }
        int from = state.where[b];
        if (from == NONE) {
            return -12;
        }
        state.where[b] = NONE;
        return from;
    }

    private int doSend(int r, int b, int n) {
        if (!beckIs(b) || !riverIs(r) || n < 1 || n > 9) {
            return -11;
        }
        if (state.gifts[r][b] + n > 9) {
            return -12;
        }
        return state.gifts[r][b] += n;
    }

    private int doRain(int b, int flow) {
        if (!beckIs(b) || flow < 0 || flow > 9) {
            return -11;
        }
        int had = state.flow[b];
        state.flow[b] = flow;
        return had;
    }

    private int doRoom(int r, int n) {
        if (!riverIs(r) || n < 0 || n > 6) {
            return -11;
        }
        state.room[r] = n;
        int out = 0;
        while (those(state.where, r).size() > n) {
            state.where[least(r)] = NONE;
            out++;
        }
        return out;
    }

    private int doDeed(long v) {
        if (v >= 0 && v <= 99) {
            return doDeclare((int) v / 10, (int) v % 10);
        }
        if (v >= 100 && v <= 109) {
            return doLeave((int) v - 100);
        }
        if (v >= 200 && v <= 299) {
            return doSend((int) (v - 200) / 10, (int) v % 10, 1);
        }
        if (v >= 300 && v <= 399) {
            return doRain((int) (v - 300) / 10, (int) v % 10);
        }
        if (v >= 400 && v <= 499) {
            return doRoom((int) (v - 400) / 10, (int) v % 10);
        }
        return -11;
    }

    private void remember(State before) {
        past.add(before);
        if (past.size() > 10) {
            past.remove(0);
        }
    }

    private int deed(IntBinaryOperator f, int a, int b) {
        State before = state.copy();
        int answer = f.applyAsInt(a, b);
        if (answer > -10) {
            remember(before);
        }
        return answer;
    }

    int declare(int b, int r) {
        return deed(this::doDeclare, b, r);
    }

    int leave(int b) {
        return deed((x, y) -> doLeave(x), b, 0);
    }

    int send(int r, int b, int n) {
        return deed((x, y) -> doSend(x, y, n), r, b);
    }

    int rain(int b, int flow) {
        return deed(this::doRain, b, flow);
    }

    int room(int r, int n) {
        return deed(this::doRoom, r, n);
    }

    int undo(int n) {
        if (n < 1 || n > 10 || n > past.size()) {
            return -3;
        }
        for (int i = 0; i < n; i++) {
            state = past.remove(past.size() - 1);
        }
        return past.size();
    }

    int judge(int tray, int what) {
        if (tray < 0 || tray > 3 || what < 0 || what > 3) {
            return -2;
        }
        if (trays[tray] == null) {
            return -6;
        }
        State before = state.copy();
        int place = NONE;
        int why = 0;
        for (int i = 0; i < trays[tray].length && why == 0; i++) {
            int answer = doDeed(trays[tray][i]);
            if (answer < -10) {
                place = i;
                why = -10 - answer;
            }
        }
        int[] answers = {place, why, bits(those(state.where, NONE)), floods()};
        state = before;
        return answers[what];
    }

    int perform(int tray) {
        if (tray < 0 || tray > 3) {
            return -2;
        }
        if (trays[tray] == null) {
            return -6;
        }
        State before = state.copy();
        int done = 0;
        for (long v : trays[tray]) {
            if (doDeed(v) < -10) {
                break;
            }
            done++;
        }
        if (done > 0) {
            remember(before);
        }
        return done;
    }

    private int seed;

    private int draw() {
        seed = 1103515245 * seed + 12345;
        return seed >>> 16;
    }

    int year(int x, int times) {
        if (times < 1 || times > 40) {
            return -3;
        }
        seed = x;
        State before = state.copy();
        int done = 0;
        for (int i = 0; i < times; i++) {
            int kind = draw() % 6;
            int answer;
            if (kind < 3) {
                int b = draw() % 6;
                int r = draw() % 4;
                answer = doDeclare(b, r);
            } else if (kind == 3) {
                answer = doLeave(draw() % 6);
            } else if (kind == 4) {
                int r = draw() % 4;
                int b = draw() % 6;
                answer = doSend(r, b, 1);
            } else {
                int b = draw() % 6;
                int f = draw() % 10;
                answer = doRain(b, f);
            }
            done += answer > -10 ? 1 : 0;
        }
        if (done > 0) {
            remember(before);
        }
        return done;
    }

    // ---- what holds

    /** Likings as tables, so that lies, gifts and dry becks can be put in: of becks [b][r], of rivers [r][b]. */
    private static final class Tables {
        int becks;
        int rivers;
        int[] room;
        int[][] likes;
        int[][] takes;

        boolean would(int b, int r) {
            return likes[b][r] > 0 && takes[r][b] > 0;
        }

        boolean beckRather(int b, int r, int than) {
            return likes[b][r] != likes[b][than] ? likes[b][r] > likes[b][than] : r < than;
        }

        boolean riverRather(int r, int b, int than) {
            return takes[r][b] != takes[r][than] ? takes[r][b] > takes[r][than] : b < than;
        }

        boolean breaks(int[] where, int b, int r) {
            if (where[b] == r || !would(b, r)) {
                return false;
            }
            if (where[b] != NONE && !beckRather(b, r, where[b])) {
                return false;
            }
            int there = 0;
            boolean less = false;
            for (int c = 0; c < becks; c++) {
                if (where[c] == r) {
                    there++;
                    less |= riverRather(r, b, c);
                }
            }
            return there < room[r] || less;
        }

        boolean holds(int[] where) {
            for (int b = 0; b < becks; b++) {
                if (where[b] != NONE && !would(b, where[b])) {
                    return false;
                }
                for (int r = 0; r < rivers; r++) {
                    if (breaks(where, b, r)) {
                        return false;
                    }
                }
            }
            return true;
        }

        /** All choices in which each is where both would, in the order of their numbers. */
        List<int[]> all() {
            List<int[]> list = new ArrayList<>();
            int[] where = new int[becks];
            int[] crowd = new int[rivers];
            go(becks - 1, where, crowd, list);
            return list;
        }

        private void go(int b, int[] where, int[] crowd, List<int[]> list) {
            if (b < 0) {
                list.add(where.clone());
                return;
            }
            where[b] = NONE;
            go(b - 1, where, crowd, list);
            for (int r = 0; r < rivers; r++) {
                if (would(b, r) && crowd[r] < room[r]) {
                    where[b] = r;
                    crowd[r]++;
                    go(b - 1, where, crowd, list);
                    crowd[r]--;
                }
            }
        }

        List<int[]> holding() {
            List<int[]> list = all();
            list.removeIf(w -> !holds(w));
            return list;
        }

        /** The choice that holds where each is best off (or worst off); says so if there is none such. */
        int[] end(boolean best) {
            List<int[]> list = holding();
            for (int[] w : list) {
                boolean is = true;
                for (int[] other : list) {
                    for (int b = 0; b < becks; b++) {
                        is &= w[b] == other[b] || better(b, w[b], other[b]) == best;
                    }
                }
                if (is) {
                    return w;
                }
            }
            throw new IllegalStateException("no end of the choices that hold");
        }

        boolean better(int b, int r, int than) {
            return r != NONE && (than == NONE || beckRather(b, r, than));
        }
    }

    private Tables tables() {
        Tables t = new Tables();
        t.becks = becks();
        t.rivers = rivers();
        t.room = state.room.clone();
        t.likes = new int[t.becks][t.rivers];
        t.takes = new int[t.rivers][t.becks];
        for (int b = 0; b < t.becks; b++) {
            for (int r = 0; r < t.rivers; r++) {
                t.likes[b][r] = liking(b, r);
                t.takes[r][b] = taking(r, b);
            }
        }
        return t;
    }

    private static int numberOf(int[] where) {
        int n = 0;
        for (int b = where.length - 1; b >= 0; b--) {
            n = n * 5 + where[b] + 1;
        }
        return n;
    }

    int holds() {
        return tables().holds(state.where) ? 1 : 0;
    }

    int breaks() {
        Tables t = tables();
        int n = 0;
        for (int b = 0; b < becks(); b++) {
            for (int r = 0; r < rivers(); r++) {
                n += t.breaks(state.where, b, r) ? 1 : 0;
            }
        }
        return n;
    }

    int breaking() {
        Tables t = tables();
        for (int v = 0; v < 60; v++) {
            if (beckIs(v / 10) && riverIs(v % 10) && t.breaks(state.where, v / 10, v % 10)) {
                return v;
            }
        }
        return NONE;
    }

    int forBecks(int b) {
        return beckIs(b) ? tables().end(true)[b] : -2;
    }

    int forRivers(int b) {
        return beckIs(b) ? tables().end(false)[b] : -2;
    }

    int choices() {
        return tables().holding().size();
    }

    int choice(int k) {
        if (k < 0) {
            return -3;
        }
        List<int[]> list = tables().holding();
        return k < list.size() ? numberOf(list.get(k)) : NONE;
    }

    int can(int b) {
        if (!beckIs(b)) {
            return -2;
        }
        int s = 0;
        for (int[] w : tables().holding()) {
            s |= w[b] == NONE ? 0 : 1 << w[b];
        }
        return s;
    }

    int sure() {
        List<int[]> list = tables().holding();
        int s = 0;
        for (int b = 0; b < becks(); b++) {
            boolean same = true;
            for (int[] w : list) {
                same &= w[b] == list.get(0)[b];
            }
            s |= same ? 1 << b : 0;
        }
        return s;
    }

    int fairest() {
        Tables t = tables();
        int best = 100;
        int number = NONE;
        for (int[] w : t.holding()) {
            int worst = 0;
            for (int b = 0; b < becks(); b++) {
                int rank = 0;
                for (int r = 0; r < rivers() && w[b] != NONE; r++) {
                    rank += t.beckRather(b, r, w[b]) && r != w[b] ? 1 : 0;
                }
                worst = Math.max(worst, w[b] == NONE ? 9 : rank);
            }
            if (worst < best) {
                best = worst;
                number = numberOf(w);
            }
        }
        return number;
    }

    int fullest() {
        int best = -1;
        int number = NONE;
        for (int[] w : tables().all()) {
            int there = (int) Arrays.stream(w).filter(r -> r != NONE).count();
            if (there > best) {
                best = there;
                number = numberOf(w);
            }
        }
        return number;
    }

    // ---- lies

    private static final int[] LIES = lies();

    private static int[] lies() {
        List<Integer> list = new ArrayList<>();
        for (int n = 0; n < 625; n++) {
            int seen = 0;
            boolean is = true;
            int v = n;
            while (v > 0) {
                int d = v % 5;
                is &= d != 0 && (seen >> d & 1) == 0;
                seen |= 1 << d;
                v /= 5;
            }
            if (is) {
                list.add(n);
            }
        }
        return list.stream().mapToInt(x -> x).toArray();
    }

    /** The best river to be gained, and the first lie to it; both NONE if there is none. */
    private int[] gain(int b) {
        Tables truth = tables();
        int home = truth.end(false)[b];
        int best = home;
        int first = NONE;
        for (int lie : LIES) {
            Tables told = tables();
            Arrays.fill(told.likes[b], 0);
            boolean can = true;
            int worth = 10;
            for (int v = lie; v > 0; v /= 5) {
                can &= v % 5 - 1 < rivers();
                if (can) {
                    told.likes[b][v % 5 - 1] = worth--;
                }
            }
            if (!can) {
                continue;
            }
            int there = told.end(false)[b];
            boolean gains = there != NONE && truth.likes[b][there] > 0 && truth.better(b, there, best);
            if (gains) {
                best = there;
                first = lie;
            }
        }
        return first == NONE ? new int[] {NONE, NONE} : new int[] {best, first};
    }

    int gains(int b) {
        return beckIs(b) ? gain(b)[0] : -2;
    }

    int lie(int b) {
        return beckIs(b) ? gain(b)[1] : -2;
    }

    int liars() {
        int s = 0;
        for (int b = 0; b < becks(); b++) {
            s |= gain(b)[0] == NONE ? 0 : 1 << b;
        }
        return s;
    }

    // ---- gifts, floods

    int woos(int r, int enough, int what) {
        if (!riverIs(r) || what != 0 && !(what >= 10 && beckIs(what - 10))) {
            return -2;
        }
        if (enough < 0 || enough > 99) {
            return -3;
        }
        for (int together = 0; together <= 9; together++) {
            int[] given = new int[becks()];
            if (tryGifts(r, enough, given, 0, together)) {
                return what == 0 ? together : given[what - 10];
            }
        }
        return NONE;
    }

    private boolean tryGifts(int r, int enough, int[] given, int b, int left) {
        if (b == becks()) {
            return left == 0 && flowIn(tables().end(true), r) >= enough;
        }
        for (int g = 0; g <= left && state.gifts[r][b] + g <= 9; g++) {
            given[b] = g;
            state.gifts[r][b] += g;
            boolean is = tryGifts(r, enough, given, b + 1, left - g);
            state.gifts[r][b] -= g;
            if (is) {
                return true;
            }
        }
        return false;
    }

    private int floodsAt(int[] where) {
        int s = 0;
        for (int r = 0; r < rivers(); r++) {
            s |= flowIn(where, r) > land.rivers.get(r)[2] ? 1 << r : 0;
        }
        return s;
    }

    int floods() {
        return floodsAt(state.where);
    }

    int turnOff(int what) {
        if (what < 0 || what > 1) {
            return -2;
        }
        int best = NONE;
        for (int set = 0; set < 1 << becks(); set++) {
            int[] where = state.where.clone();
            for (int b = 0; b < becks(); b++) {
                where[b] = (set >> b & 1) != 0 ? NONE : where[b];
            }
            if (floodsAt(where) == 0 && (best == NONE || Integer.bitCount(set) < Integer.bitCount(best))) {
                best = set;
            }
        }
        return what == 0 ? Integer.bitCount(best) : best;
    }

    int bearing(int r) {
        if (!riverIs(r)) {
            return -2;
        }
        return tables().holding().stream().mapToInt(w -> flowIn(w, r)).max().orElse(NONE);
    }

    // ---- by where all went

    int marks(int tray, int b) {
        if (tray < 0 || tray > 3 || !beckIs(b)) {
            return -2;
        }
        if (trays[tray] == null) {
            return -6;
        }
        if (trays[tray].length != becks()) {
            return -4;
        }
        int[] where = new int[becks()];
        for (int i = 0; i < where.length; i++) {
            long v = trays[tray][i];
            if (v < -1 || v >= rivers()) {
                return -3;
            }
            where[i] = (int) v;
        }
        for (int r = 0; r < rivers(); r++) {
            if (those(where, r).size() > state.room[r]) {
                return -3;
            }
        }
        int s = 0;
        for (int m = 0; m <= 9; m++) {
            markOf = b;
            markIs = m;
            s |= tables().holds(where) ? 1 << m : 0;
        }
        markOf = NONE;
        return s;
    }

    int ask(int tray, int b) {
        int set = marks(tray, b);
        if (set < 0) {
            return set;
        }
        int best = NONE;
        int most = NONE;
        for (int r = 0; r < rivers() && set != 0; r++) {
            int yes = 0;
            int no = 0;
            for (int m = 0; m <= 9; m++) {
                markOf = b;
                markIs = m;
                if ((set >> m & 1) != 0) {
                    yes += liking(b, r) > 0 ? 1 : 0;
                    no += liking(b, r) > 0 ? 0 : 1;
                }
            }
            if (Math.min(yes, no) > most) {
                most = Math.min(yes, no);
                best = r;
            }
        }
        markOf = NONE;
        return best;
    }

    // ---- chances

    private long weight(int running) {
        long w = 1;
        for (int b = 0; b < becks(); b++) {
            int dry = land.becks.get(b)[2];
            w *= (running >> b & 1) != 0 ? 10 - dry : dry;
        }
        return w;
    }

    private int fraction(long above, int what) {
        long below = 1;
        for (int b = 0; b < becks(); b++) {
            below *= 10;
        }
        for (int p : new int[] {2, 5}) {
            while (above % p == 0 && below % p == 0) {
                above /= p;
                below /= p;
            }
        }
        return (int) (what == 0 ? above : below);
    }

    int flooding(int r, int what) {
        if (!riverIs(r) || what < 0 || what > 1) {
            return -2;
        }
        long sum = 0;
        for (int running = 0; running < 1 << becks(); running++) {
            int[] where = state.where.clone();
            for (int b = 0; b < becks(); b++) {
                where[b] = (running >> b & 1) == 0 ? NONE : where[b];
            }
            sum += (floodsAt(where) >> r & 1) != 0 ? weight(running) : 0;
        }
        return fraction(sum, what);
    }

    int staying(int b, int what) {
        if (!beckIs(b) || what < 0 || what > 1) {
            return -2;
        }
        int home = tables().end(true)[b];
        long sum = 0;
        for (int running = 0; running < 1 << becks() && home != NONE; running++) {
            if ((running >> b & 1) == 0 || weight(running) == 0) {
                continue;
            }
            Tables t = tables();
            for (int c = 0; c < becks(); c++) {
                if ((running >> c & 1) == 0) {
                    Arrays.fill(t.likes[c], 0);
                }
            }
            sum += t.end(true)[b] == home ? weight(running) : 0;
        }
        return fraction(sum, what);
    }

    // ---- trays, images

    int numbers(int tray, int sort, int n) {
        if (tray < 0 || tray > 3 || sort < 0 || sort > 3) {
            return -2;
        }
        if (n < 0 || n > 40) {
            return -3;
        }
        trays[tray] = new long[n];
        sorts[tray] = sort;
        return 0;
    }

    long write(int tray, int i, long v) {
        if (tray < 0 || tray > 3) {
            return -2;
        }
        if (trays[tray] == null) {
            return -6;
        }
        if (i < 0 || i >= trays[tray].length) {
            return -7;
        }
        int cut = 64 - (8 << sorts[tray]);
        return trays[tray][i] = v << cut >> cut;
    }

    int lists(int tray, int what) {
        if (tray < 0 || tray > 3 || what < 0 || what > 1) {
            return -2;
        }
        if (trays[tray] == null) {
            return -6;
        }
        int[] where = tables().end(what == 0);
        int n = Math.min(where.length, trays[tray].length);
        for (int i = 0; i < n; i++) {
            trays[tray][i] = where[i];
        }
        return n;
    }

    int image(int i) {
        if (i < 0 || i > 1) {
            return -2;
        }
        imageLand[i] = land;
        imageState[i] = state.copy();
        return 0;
    }

    int restore(int i) {
        if (i < 0 || i > 1) {
            return -2;
        }
        if (imageState[i] == null) {
            return -5;
        }
        land = imageLand[i];
        state = imageState[i].copy();
        past.clear();
        return 0;
    }

    int count(int what) {
        switch (what) {
            case 0: return becks();
            case 1: return rivers();
            case 2: return bits(those(state.where, NONE));
            case 3: return Arrays.stream(state.room).sum();
            case 4: return Arrays.stream(state.flow).sum();
            case 5: return Arrays.stream(state.gifts).flatMapToInt(Arrays::stream).sum();
            case 6: return past.size();
            case 7: return tape.size();
            case 8: return land == null ? 0 : land.lines;
            default: return NONE;
        }
    }
}
