import java.util.Arrays;

/** Becks that choose their rivers, and rivers that choose their becks. README.md says how it is used. */
public final class BeckChoice {
    public static final int NONE = -1;

    private static final int BECKS_MOST = 6;
    private static final int RIVERS_MOST = 4;
    private static final int PAIRS = BECKS_MOST * RIVERS_MOST;
    private static final int FLOW_MOST = 9;
    private static final int ROOM_MOST = 6;
    private static final int MARK_MOST = 9;
    private static final int DRY_OF = 10;
    private static final int NAME_MOST = 9;
    private static final int BEARS_MOST = 99;
    private static final int GIFTS_MOST = 9;
    private static final int CHOICE_BASE = 5;
    private static final int NOWHERE_RANK = 9;

    private static final int TEXT_MOST = 900;
    private static final int FED_AT_ONCE = 20;
    private static final int UNDOS_MOST = 10;
    private static final int TIMES_MOST = 40;
    private static final int TRAYS = 4;
    private static final int SORTS = 4;
    private static final int TRAY_MOST = 40;
    private static final int IMAGES = 2;
    private static final int WOOS_A_BECK = 10;

    private static final int NO_SUCH = -2;
    private static final int CANT_BE = -3;
    private static final int TOO_MANY = -4;
    private static final int NOT_NOW = -5;
    private static final int TRAY_MISSING = -6;
    private static final int NO_PLACE = -7;
    private static final int FAULTY = -30;
    private static final int NO_LIKING = -99000002;

    private static final int WHY_NOT = -10;
    private static final int WHY_NO_SUCH = WHY_NOT - 1;
    private static final int WHY_IT_IS_SO = WHY_NOT - 2;
    private static final int WHY_WOULDNT = WHY_NOT - 3;
    private static final int WHY_NO_ROOM = WHY_NOT - 4;

    private final byte[] tape = new byte[TEXT_MOST];
    private int taped;
    private final Land draft = new Land();
    private final Tokens tokens = new Tokens(tape);
    private final Reader reader = new Reader(tokens, draft);
    private int fault;
    private int faultPlace = NONE;
    private final Law law = new Law();
    private final Scene now = new Scene(new Land(), law);
    private final Scene trial = new Scene(now.land, law);
    private final Scene[] images = new Scene[IMAGES];
    private final boolean[] imaged = new boolean[IMAGES];
    private final Past past = new Past();
    private final Match match = new Match();
    private final Survey survey = new Survey(match);
    private final Wooing wooing = new Wooing(trial, match);
    private final Supposing supposing = new Supposing(trial, match);
    private final Tray[] trays = new Tray[TRAYS];
    private int draw;

    public BeckChoice() {
        for (int i = 0; i < IMAGES; i++) {
            images[i] = new Scene(new Land(), law);
        }
        for (int i = 0; i < TRAYS; i++) {
            trays[i] = new Tray();
        }
        now.begin();
    }

    // ---- the land

    public int feed(int a, int b, int c, int d, int e) {
        if (taped > TEXT_MOST - FED_AT_ONCE) {
            return NOT_NOW;
        }
        tapeInt(a);
        tapeInt(b);
        tapeInt(c);
        tapeInt(d);
        tapeInt(e);
        return taped;
    }

    private void tapeInt(int four) {
        for (int shift = 24; shift >= 0 && taped < TEXT_MOST; shift -= 8) {
            tape[taped] = (byte) (four >> shift);
            taped++;
        }
    }

    public int land(int n) {
        if (n < 0 || n > taped) {
            return CANT_BE;
        }
        tokens.open(n);
        reader.readAll();
        taped = 0;
        fault = tokens.fault;
        faultPlace = tokens.faultPlace;
        if (fault != 0) {
            return FAULTY - fault;
        }
        now.land.copyFrom(draft);
        now.begin();
        past.forget();
        return now.land.lines;
    }

    public int fault(int what) {
        switch (what) {
            case 0: return fault;
            case 1: return faultPlace;
            default: return NONE;
        }
    }

    public int beck(int b, int what) {
        if (!now.land.hasBeck(b)) {
            return NO_SUCH;
        }
        switch (what) {
            case 0: return now.whereOf(b);
            case 1: return now.flowOf(b);
            case 2: return now.land.mark[b];
            case 3: return now.land.dry[b];
            case 4: return now.mutual[b];
            default: return NO_SUCH;
        }
    }

    public int river(int r, int what) {
        if (!now.land.hasRiver(r)) {
            return NO_SUCH;
        }
        switch (what) {
            case 0: return now.roomOf(r);
            case 1: return now.land.name[r];
            case 2: return now.land.bears[r];
            case 3: return now.becksIn(now.cells, r);
            case 4: return now.flowOfSet(now.becksIn(now.cells, r));
            case 5: return now.leastLiked(r, now.becksIn(now.cells, r));
            default: return NO_SUCH;
        }
    }

    public int likes(int b, int r) {
        return now.land.hasBeck(b) && now.land.hasRiver(r) ? now.likes[pair(b, r)] : NO_LIKING;
    }

    public int takes(int r, int b) {
        return now.land.hasBeck(b) && now.land.hasRiver(r) ? now.takes[pair(b, r)] : NO_LIKING;
    }

    public int gifts(int r, int b) {
        return now.land.hasBeck(b) && now.land.hasRiver(r) ? now.giftsOf(b, r) : NO_SUCH;
    }

    // ---- deeds

    public int declare(int b, int r) {
        past.look(now.cells);
        return keptIfDone(now.goInto(b, r));
    }

    public int leave(int b) {
        past.look(now.cells);
        return keptIfDone(now.goOut(b));
    }

    public int send(int r, int b, int n) {
        past.look(now.cells);
        return keptIfDone(now.give(r, b, n));
    }

    public int rain(int b, int flow) {
        past.look(now.cells);
        return keptIfDone(now.pour(b, flow));
    }

    public int room(int r, int n) {
        past.look(now.cells);
        return keptIfDone(now.widen(r, n));
    }

    private int keptIfDone(int answer) {
        if (answer >= NONE) {
            past.keep();
        }
        return answer;
    }

    public int undo(int n) {
        if (n < 1 || n > past.size) {
            return CANT_BE;
        }
        past.bringBack(n, now.cells);
        now.measureAll();
        return past.size;
    }

    public int judge(int tray, int what) {
        if (!isTray(tray) || what < 0 || what > 3) {
            return NO_SUCH;
        }
        if (trays[tray].missing()) {
            return TRAY_MISSING;
        }
        trial.copyFrom(now);
        int done = trial.doAll(trays[tray]);
        boolean all = done >= trays[tray].size;
        switch (what) {
            case 0: return all ? NONE : done;
            case 1: return all ? 0 : trial.whyNot(trays[tray].at(done));
            case 2: return trial.nowhere();
            default: return trial.flooded();
        }
    }

    public int perform(int tray) {
        if (!isTray(tray)) {
            return NO_SUCH;
        }
        if (trays[tray].missing()) {
            return TRAY_MISSING;
        }
        past.look(now.cells);
        return keptIfSome(now.doAll(trays[tray]));
    }

    public int year(int seed, int times) {
        if (times < 1 || times > TIMES_MOST) {
            return CANT_BE;
        }
        past.look(now.cells);
        draw = seed;
        int done = 0;
        for (int i = 0; i < times; i++) {
            if (now.whyNot(drawnDeed()) == 0) {
                done++;
            }
        }
        return keptIfSome(done);
    }

    private int keptIfSome(int done) {
        if (done > 0) {
            past.keep();
        }
        return done;
    }

    private int drawnDeed() {
        int kind = drawn(6);
        if (kind <= 2) {
            int beck = drawn(6);
            return 10 * beck + drawn(4);
        }
        if (kind == 3) {
            return 100 + drawn(6);
        }
        if (kind == 4) {
            int river = drawn(4);
            return 200 + 10 * river + drawn(6);
        }
        int beck = drawn(6);
        return 300 + 10 * beck + drawn(10);
    }

    private int drawn(int modulus) {
        draw = 1103515245 * draw + 12345;
        return modulus > 0 ? (draw >>> 16) % modulus : 0;
    }

    // ---- what holds

    public int holds() {
        return now.isHeld(now.cells) ? 1 : 0;
    }

    public int breaks() {
        int twos = 0;
        for (int b = 0; b < now.land.becks; b++) {
            twos += Integer.bitCount(now.breakersOf(now.cells, b));
        }
        return twos;
    }

    public int breaking() {
        for (int b = 0; b < now.land.becks; b++) {
            int rivers = now.breakersOf(now.cells, b);
            if (rivers != 0) {
                return 10 * b + Integer.numberOfTrailingZeros(rivers);
            }
        }
        return NONE;
    }

    public int forBecks(int b) {
        if (!now.land.hasBeck(b)) {
            return NO_SUCH;
        }
        match.bestForBecks(now, now.land.allBecks());
        return match.where[b];
    }

    public int forRivers(int b) {
        if (!now.land.hasBeck(b)) {
            return NO_SUCH;
        }
        match.bestForRivers(now);
        return match.where[b];
    }

    public int choices() {
        survey.goThrough(now, NONE);
        return survey.found;
    }

    public int choice(int k) {
        if (k < 0) {
            return CANT_BE;
        }
        survey.goThrough(now, k);
        return survey.wantedNumber;
    }

    public int can(int b) {
        if (!now.land.hasBeck(b)) {
            return NO_SUCH;
        }
        survey.goThrough(now, NONE);
        return survey.seenIn[b];
    }

    public int sure() {
        survey.bound(now);
        int same = 0;
        for (int b = 0; b < now.land.becks; b++) {
            if (survey.best[b] == survey.worst[b]) {
                same |= 1 << b;
            }
        }
        return same;
    }

    public int fairest() {
        survey.goThrough(now, NONE);
        return survey.fairestNumber;
    }

    public int fullest() {
        return survey.fullestNumber(now);
    }

    // ---- lies

    public int gains(int b) {
        return now.land.hasBeck(b) ? supposing.gainByLying(now, b) : NO_SUCH;
    }

    public int lie(int b) {
        if (!now.land.hasBeck(b)) {
            return NO_SUCH;
        }
        int river = supposing.gainByLying(now, b);
        return river == NONE ? NONE : river + 1;
    }

    public int liars() {
        int becks = 0;
        for (int b = 0; b < now.land.becks; b++) {
            if (supposing.gainByLying(now, b) != NONE) {
                becks |= 1 << b;
            }
        }
        return becks;
    }

    // ---- gifts, floods

    public int woos(int r, int enough, int what) {
        boolean known = what == 0 || what >= 10 && now.land.hasBeck(what - 10);
        if (!now.land.hasRiver(r) || !known) {
            return NO_SUCH;
        }
        if (enough < 0 || enough > 99) {
            return CANT_BE;
        }
        int together = wooing.least(now, r, enough);
        return together == NONE || what == 0 ? together : wooing.given[what - 10];
    }

    public int floods() {
        return now.flooded();
    }

    public int turnOff(int what) {
        if (what != 0 && what != 1) {
            return NO_SUCH;
        }
        int fewest = now.fewestToTurnOff();
        return what == 0 ? Integer.bitCount(fewest) : fewest;
    }

    public int bearing(int r) {
        if (!now.land.hasRiver(r)) {
            return NO_SUCH;
        }
        survey.goThrough(now, NONE);
        return survey.mostFlow[r];
    }

    // ---- by where all went

    public int marks(int tray, int b) {
        int refused = refusedAnswers(tray, b);
        if (refused != 0) {
            return refused;
        }
        return supposing.marksThatHold(now, b);
    }

    public int ask(int tray, int b) {
        int refused = refusedAnswers(tray, b);
        if (refused != 0) {
            return refused;
        }
        supposing.marksThatHold(now, b);
        return supposing.bestQuestion(now.land.rivers);
    }

    /** The code by which answers are refused; 0 if they are not, and supposing knows them then. */
    private int refusedAnswers(int tray, int b) {
        if (!isTray(tray) || !now.land.hasBeck(b)) {
            return NO_SUCH;
        }
        if (trays[tray].missing()) {
            return TRAY_MISSING;
        }
        if (trays[tray].size != now.land.becks) {
            return TOO_MANY;
        }
        return supposing.hear(now, trays[tray]) ? 0 : CANT_BE;
    }

    // ---- chances

    public int flooding(int r, int what) {
        if (!now.land.hasRiver(r) || what != 0 && what != 1) {
            return NO_SUCH;
        }
        supposing.chanceOfFlood(now, r);
        return what == 0 ? supposing.above : supposing.below;
    }

    public int staying(int b, int what) {
        if (!now.land.hasBeck(b) || what != 0 && what != 1) {
            return NO_SUCH;
        }
        supposing.chanceOfStaying(now, b);
        return what == 0 ? supposing.above : supposing.below;
    }

    // ---- trays, images

    public int numbers(int tray, int sort, int n) {
        if (!isTray(tray) || sort < 0 || sort >= SORTS) {
            return NO_SUCH;
        }
        if (n < 0 || n > TRAY_MOST) {
            return CANT_BE;
        }
        trays[tray].make(sort, n);
        return 0;
    }

    public long write(int tray, int i, long v) {
        if (!isTray(tray)) {
            return NO_SUCH;
        }
        if (trays[tray].missing()) {
            return TRAY_MISSING;
        }
        return trays[tray].hasPlace(i) ? trays[tray].put(i, v) : NO_PLACE;
    }

    public int lists(int tray, int what) {
        if (!isTray(tray) || what != 0 && what != 1) {
            return NO_SUCH;
        }
        if (trays[tray].missing()) {
            return TRAY_MISSING;
        }
        if (what == 0) {
            match.bestForBecks(now, now.land.allBecks());
        } else {
            match.bestForRivers(now);
        }
        int places = Math.min(trays[tray].size, now.land.becks);
        for (int b = 0; b < places; b++) {
            trays[tray].put(b, match.where[b]);
        }
        return places;
    }

    public int image(int i) {
        if (i < 0 || i >= IMAGES) {
            return NO_SUCH;
        }
        images[i].land.copyFrom(now.land);
        images[i].copyFrom(now);
        imaged[i] = true;
        return 0;
    }

    public int restore(int i) {
        if (i < 0 || i >= IMAGES) {
            return NO_SUCH;
        }
        if (!imaged[i]) {
            return NOT_NOW;
        }
        now.land.copyFrom(images[i].land);
        now.copyFrom(images[i]);
        past.forget();
        return 0;
    }

    public int count(int what) {
        switch (what) {
            case 0: return now.land.becks;
            case 1: return now.land.rivers;
            case 2: return now.nowhere();
            case 3: return now.total(Scene.ROOM, RIVERS_MOST);
            case 4: return now.total(Scene.FLOW, BECKS_MOST);
            case 5: return now.total(Scene.GIFTS, PAIRS);
            case 6: return past.size;
            case 7: return taped;
            case 8: return now.land.lines;
            default: return NONE;
        }
    }

    private static boolean isTray(int tray) {
        return tray >= 0 && tray < TRAYS;
    }

    private static int pair(int b, int r) {
        return b * RIVERS_MOST + r;
    }

    /** What a text tells. Its laws stand one behind the other in one row of code, as Law runs it. */
    private static final class Land {
        int becks;
        int rivers;
        int lines;
        final int[] flow = new int[BECKS_MOST];
        final int[] mark = new int[BECKS_MOST];
        final int[] dry = new int[BECKS_MOST];
        final int[] to = new int[BECKS_MOST];
        final int[] room = new int[RIVERS_MOST];
        final int[] name = new int[RIVERS_MOST];
        final int[] bears = new int[RIVERS_MOST];
        // Every cell comes from a token of its own, so a text's length is enough.
        final int[] code = new int[TEXT_MOST];
        int coded;
        int likesAt = NONE;
        int takesAt = NONE;

        void clear() {
            becks = 0;
            rivers = 0;
            lines = 0;
            coded = 0;
            likesAt = NONE;
            takesAt = NONE;
        }

        void copyFrom(Land other) {
            becks = other.becks;
            rivers = other.rivers;
            lines = other.lines;
            coded = other.coded;
            likesAt = other.likesAt;
            takesAt = other.takesAt;
            System.arraycopy(other.flow, 0, flow, 0, BECKS_MOST);
            System.arraycopy(other.mark, 0, mark, 0, BECKS_MOST);
            System.arraycopy(other.dry, 0, dry, 0, BECKS_MOST);
            System.arraycopy(other.to, 0, to, 0, BECKS_MOST);
            System.arraycopy(other.room, 0, room, 0, RIVERS_MOST);
            System.arraycopy(other.name, 0, name, 0, RIVERS_MOST);
            System.arraycopy(other.bears, 0, bears, 0, RIVERS_MOST);
            System.arraycopy(other.code, 0, code, 0, other.coded);
        }

        boolean hasBeck(int b) {
            return b >= 0 && b < becks;
        }

        boolean hasRiver(int r) {
            return r >= 0 && r < rivers;
        }

        int allBecks() {
            return (1 << becks) - 1;
        }

        /** The number of a new beck, which is nowhere yet; NONE if there are as many as can be. */
        int addBeck() {
            if (becks >= BECKS_MOST) {
                return NONE;
            }
            mark[becks] = 0;
            dry[becks] = 0;
            to[becks] = NONE;
            return becks++;
        }

        int addRiver() {
            if (rivers >= RIVERS_MOST) {
                return NONE;
            }
            name[rivers] = 0;
            bears[rivers] = BEARS_MOST;
            return rivers++;
        }

        boolean hasRoomFor(int r) {
            int there = 0;
            for (int b = 0; b < becks; b++) {
                if (to[b] == r) {
                    there++;
                }
            }
            return hasRiver(r) && there < room[r];
        }

        int addCode(int cell) {
            if (coded < TEXT_MOST) {
                code[coded] = cell;
                coded++;
            }
            return coded - 1;
        }
    }

    /** The text token by token, and the first fault along it. */
    private static final class Tokens {
        static final int LAND = 0;
        static final int BECK = 1;
        static final int FLOW = 2;
        static final int MARK = 3;
        static final int RIVER = 4;
        static final int NAME = 5;
        static final int GIFTS = 6;
        static final int DRY = 7;
        static final int TO = 8;
        static final int ROOM = 9;
        static final int BEARS = 10;
        static final int LIKES = 11;
        static final int TAKES = 12;
        static final int IF = 13;
        static final int THEN = 14;
        static final int ELSE = 15;
        static final int END = 16;
        static final int NOT = 17;
        static final int AND = 18;
        static final int OR = 19;
        // The words above, in their order, each in a slot of its own.
        private static final String WORDS =
            "land beck flow mark rivername giftsdry  to   room bearslikestakesif   then else end  not  and  or   ";
        private static final int SLOT = 5;
        private static final int KNOWN_WORDS = 20;
        private static final int OTHER_WORD = 20;
        static final int NUMBER = 21;
        static final int TEXT_END = 22;
        private static final int NO_TOKEN = 23;
        // A sign's kind is the sign itself: all of them are above the kinds here.
        private static final String SIGNS = ";:+-*()[]=<>";
        private static final int DIGITS_MOST = 3;

        static final int FAULT_NO_TOKEN = 1;
        static final int FAULT_MISPLACED = 2;
        static final int FAULT_OUT_OF_BOUNDS = 3;
        static final int FAULT_ONE_TOO_MANY = 4;

        private final byte[] text;
        private int length;
        private int at;
        int kind;
        int place;
        int value;
        int fault;
        int faultPlace;

        Tokens(byte[] text) {
            this.text = text;
        }

        void open(int n) {
            length = Math.max(0, Math.min(n, text.length));
            at = 0;
            fault = 0;
            faultPlace = NONE;
            advance();
        }

        /** Stands still behind a fault, so that nothing further along can be told in its place. */
        void advance() {
            if (fault != 0) {
                return;
            }
            while (at < length && (text[at] == 10 || text[at] == 32)) {
                at++;
            }
            place = at;
            if (at >= length) {
                kind = TEXT_END;
            } else if (isLetter(text[at])) {
                kind = word();
            } else if (isDigit(text[at])) {
                kind = number();
            } else {
                kind = sign(text[at]);
                at++;
            }
        }

        private static boolean isLetter(int c) {
            return c >= 'a' && c <= 'z';
        }

        private static boolean isDigit(int c) {
            return c >= '0' && c <= '9';
        }

        private static int sign(int c) {
            return c > 0 && SIGNS.indexOf((char) c) >= 0 ? c : NO_TOKEN;
        }

        private int number() {
            int digits = 0;
            value = 0;
            while (at < length && isDigit(text[at])) {
                if (digits < DIGITS_MOST) {
                    value = value * 10 + text[at] - '0';
                }
                digits++;
                at++;
            }
            return digits <= DIGITS_MOST ? NUMBER : NO_TOKEN;
        }

        private int word() {
            while (at < length && isLetter(text[at])) {
                at++;
            }
            int letters = at - place;
            for (int w = 0; w < KNOWN_WORDS && letters <= SLOT; w++) {
                int same = 0;
                while (same < SLOT && WORDS.charAt(w * SLOT + same) == (same < letters ? text[place + same] : ' ')) {
                    same++;
                }
                if (same == SLOT) {
                    return w;
                }
            }
            return OTHER_WORD;
        }

        boolean sees(int wanted) {
            return fault == 0 && kind == wanted;
        }

        boolean goesOn() {
            return fault == 0 && kind != TEXT_END;
        }

        void refuse(int why) {
            if (fault == 0) {
                fault = kind == NO_TOKEN ? FAULT_NO_TOKEN : why;
                faultPlace = place;
            }
        }

        void expect(int wanted) {
            if (sees(wanted)) {
                advance();
            } else {
                refuse(FAULT_MISPLACED);
            }
        }

        int expectNumber(int most) {
            if (!sees(NUMBER)) {
                refuse(FAULT_MISPLACED);
                return 0;
            }
            if (value > most) {
                refuse(FAULT_OUT_OF_BOUNDS);
                return 0;
            }
            int n = value;
            advance();
            return n;
        }
    }

    /** Makes a land of a text; its laws become code that puts down parts first, and then what joins them. */
    private static final class Reader {
        private static final int NESTED_MOST = 6;

        private final Tokens tokens;
        private final Land land;

        Reader(Tokens tokens, Land land) {
            this.tokens = tokens;
            this.land = land;
        }

        void readAll() {
            land.clear();
            tokens.expect(Tokens.LAND);
            tokens.expect(';');
            land.lines = 1;
            for (int i = 0; i < TEXT_MOST && tokens.goesOn(); i++) {
                readLine();
                tokens.expect(';');
                land.lines++;
            }
        }

        private void readLine() {
            switch (tokens.kind) {
                case Tokens.BECK:
                    readBeck();
                    break;
                case Tokens.RIVER:
                    readRiver();
                    break;
                case Tokens.LIKES:
                    land.likesAt = readLaw();
                    break;
                case Tokens.TAKES:
                    land.takesAt = readLaw();
                    break;
                default:
                    tokens.refuse(Tokens.FAULT_MISPLACED);
                    break;
            }
        }

        private void readBeck() {
            int b = land.addBeck();
            if (b == NONE) {
                tokens.refuse(Tokens.FAULT_ONE_TOO_MANY);
                return;
            }
            tokens.advance();
            tokens.expect(Tokens.FLOW);
            land.flow[b] = tokens.expectNumber(FLOW_MOST);
            for (int i = 0; i < TEXT_MOST; i++) {
                if (tokens.sees(Tokens.MARK)) {
                    tokens.advance();
                    land.mark[b] = tokens.expectNumber(MARK_MOST);
                } else if (tokens.sees(Tokens.DRY)) {
                    tokens.advance();
                    land.dry[b] = tokens.expectNumber(DRY_OF);
                } else if (tokens.sees(Tokens.TO)) {
                    tokens.advance();
                    readTo(b);
                } else {
                    return;
                }
            }
        }

        private void readTo(int b) {
            // It isn't in the river told ahead: that one's room is free again.
            land.to[b] = NONE;
            if (!tokens.sees(Tokens.NUMBER)) {
                tokens.refuse(Tokens.FAULT_MISPLACED);
            } else if (!land.hasRoomFor(tokens.value)) {
                tokens.refuse(Tokens.FAULT_OUT_OF_BOUNDS);
            } else {
                land.to[b] = tokens.value;
                tokens.advance();
            }
        }

        private void readRiver() {
            int r = land.addRiver();
            if (r == NONE) {
                tokens.refuse(Tokens.FAULT_ONE_TOO_MANY);
                return;
            }
            tokens.advance();
            tokens.expect(Tokens.ROOM);
            land.room[r] = tokens.expectNumber(ROOM_MOST);
            for (int i = 0; i < TEXT_MOST; i++) {
                if (tokens.sees(Tokens.NAME)) {
                    tokens.advance();
                    land.name[r] = tokens.expectNumber(NAME_MOST);
                } else if (tokens.sees(Tokens.BEARS)) {
                    tokens.advance();
                    land.bears[r] = tokens.expectNumber(BEARS_MOST);
                } else {
                    return;
                }
            }
        }

        private int readLaw() {
            tokens.advance();
            tokens.expect(':');
            int start = land.coded;
            readSum(0);
            land.addCode(Law.STOP);
            return start;
        }

        private void readSum(int depth) {
            readTerm(depth);
            for (int i = 0; i < TEXT_MOST && (tokens.sees('+') || tokens.sees('-')); i++) {
                int join = tokens.sees('+') ? Law.PLUS : Law.MINUS;
                tokens.advance();
                readTerm(depth);
                land.addCode(join);
            }
        }

        private void readTerm(int depth) {
            readAtom(depth);
            for (int i = 0; i < TEXT_MOST && tokens.sees('*'); i++) {
                tokens.advance();
                readAtom(depth);
                land.addCode(Law.TIMES);
            }
        }

        private void readAtom(int depth) {
            if (tokens.sees(Tokens.NUMBER)) {
                land.addCode(Law.CONSTANT + tokens.value);
                tokens.advance();
            } else if (tokens.kind >= Tokens.BECK && tokens.kind <= Tokens.GIFTS) {
                land.addCode(Law.VARIABLE + tokens.kind - Tokens.BECK);
                tokens.advance();
            } else if (tokens.sees('(')) {
                if (goesIn(depth)) {
                    readSum(depth + 1);
                    tokens.expect(')');
                }
            } else if (tokens.sees(Tokens.IF)) {
                if (goesIn(depth)) {
                    readIf(depth + 1);
                }
            } else {
                tokens.refuse(Tokens.FAULT_MISPLACED);
            }
        }

        private void readIf(int depth) {
            readTruth(depth);
            tokens.expect(Tokens.THEN);
            int overThen = land.addCode(Law.JUMP_UNLESS);
            readSum(depth);
            tokens.expect(Tokens.ELSE);
            int overElse = land.addCode(Law.JUMP);
            aim(overThen);
            readSum(depth);
            tokens.expect(Tokens.END);
            aim(overElse);
        }

        private void aim(int jump) {
            if (jump >= 0 && jump < land.coded) {
                land.code[jump] += land.coded;
            }
        }

        private void readTruth(int depth) {
            readBoth(depth);
            for (int i = 0; i < TEXT_MOST && tokens.sees(Tokens.OR); i++) {
                tokens.advance();
                readBoth(depth);
                land.addCode(Law.OR);
            }
        }

        private void readBoth(int depth) {
            readUnit(depth);
            for (int i = 0; i < TEXT_MOST && tokens.sees(Tokens.AND); i++) {
                tokens.advance();
                readUnit(depth);
                land.addCode(Law.AND);
            }
        }

        private void readUnit(int depth) {
            if (tokens.sees(Tokens.NOT)) {
                if (goesIn(depth)) {
                    readUnit(depth + 1);
                    land.addCode(Law.NOT);
                }
            } else if (tokens.sees('[')) {
                if (goesIn(depth)) {
                    readTruth(depth + 1);
                    tokens.expect(']');
                }
            } else {
                readSum(depth);
                int comparison = readComparison();
                readSum(depth);
                land.addCode(comparison);
            }
        }

        private int readComparison() {
            int comparison = Law.EQUAL;
            if (tokens.sees('<')) {
                comparison = Law.LESS;
            } else if (tokens.sees('>')) {
                comparison = Law.MORE;
            } else if (!tokens.sees('=')) {
                tokens.refuse(Tokens.FAULT_MISPLACED);
            }
            tokens.advance();
            return comparison;
        }

        private boolean goesIn(int depth) {
            if (depth >= NESTED_MOST) {
                tokens.refuse(Tokens.FAULT_ONE_TOO_MANY);
                return false;
            }
            tokens.advance();
            return true;
        }
    }

    /** Runs a law's code. A cell is what to do, and below STEP a constant, a variable, or the cell to go to. */
    private static final class Law {
        private static final int STEP = 1000;
        static final int CONSTANT = 0;
        static final int VARIABLE = STEP;
        static final int JUMP = 2 * STEP;
        static final int JUMP_UNLESS = 3 * STEP;
        static final int STOP = 4 * STEP;
        static final int NOT = 5 * STEP;
        static final int PLUS = 6 * STEP;
        static final int MINUS = 7 * STEP;
        static final int TIMES = 8 * STEP;
        static final int EQUAL = 9 * STEP;
        static final int LESS = 10 * STEP;
        static final int MORE = 11 * STEP;
        static final int AND = 12 * STEP;
        static final int OR = 13 * STEP;

        private static final int VARIABLES = 6;
        private static final int UNTOLD = 1;
        private static final int BOUND = 1000000;
        // Seven levels hold back at most five parts each: of or, and, a comparison, a sum, a term.
        private static final int DEPTH = 64;

        private final int[] variables = new int[VARIABLES];
        private final int[] parts = new int[DEPTH];

        void setBeck(int beck, int flow, int mark) {
            variables[0] = beck;
            variables[1] = flow;
            variables[2] = mark;
        }

        void setRiver(int river, int name, int gifts) {
            variables[3] = river;
            variables[4] = name;
            variables[5] = gifts;
        }

        /** One loop without calls for most cells: laws are run more often than anything else here. */
        int value(int[] code, int start) {
            if (start < 0) {
                return UNTOLD;
            }
            int at = start;
            int top = 0;
            for (int step = 0; step < TEXT_MOST && at < code.length; step++) {
                int cell = code[at];
                at++;
                if (cell < JUMP && top < DEPTH) {
                    parts[top] = cell < VARIABLE ? cell : valueOf(cell - VARIABLE);
                    top++;
                } else if (cell >= PLUS && top > 1) {
                    top--;
                    parts[top - 1] = joined(cell, parts[top - 1], parts[top]);
                } else if (cell == NOT && top > 0) {
                    parts[top - 1] = 1 - parts[top - 1];
                } else if (cell >= JUMP_UNLESS && cell < STOP && top > 0) {
                    top--;
                    at = parts[top] == 0 ? cell - JUMP_UNLESS : at;
                } else if (cell >= JUMP && cell < JUMP_UNLESS) {
                    at = cell - JUMP;
                } else {
                    break;
                }
            }
            return top > 0 ? parts[top - 1] : 0;
        }

        private int valueOf(int variable) {
            return variable < VARIABLES ? variables[variable] : 0;
        }

        private static int joined(int join, int left, int right) {
            long v;
            switch (join / STEP) {
                case PLUS / STEP: v = left + right; break;
                case MINUS / STEP: v = left - right; break;
                case TIMES / STEP: v = (long) left * right; break;
                case EQUAL / STEP: return left == right ? 1 : 0;
                case LESS / STEP: return left < right ? 1 : 0;
                case MORE / STEP: return left > right ? 1 : 0;
                case AND / STEP: return left & right;
                default: return left | right;
            }
            if (v > BOUND) {
                return BOUND;
            }
            return v < -BOUND ? -BOUND : (int) v;
        }
    }

    /** A land as it is at one time, what is liked there, and the deeds that change it. */
    private static final class Scene {
        // One row of all that can be undone. Its first cells are a row of where becks are, as other rows of choices.
        static final int FLOW = BECKS_MOST;
        static final int ROOM = FLOW + BECKS_MOST;
        static final int GIFTS = ROOM + RIVERS_MOST;
        static final int CELLS = GIFTS + PAIRS;

        final Land land;
        private final Law law;
        final int[] cells = new int[CELLS];
        final int[] likes = new int[PAIRS];
        final int[] takes = new int[PAIRS];
        // The same with less numbers ahead of those liked alike: no two of one beck, of one river are equal.
        final int[] beckOrder = new int[PAIRS];
        final int[] riverOrder = new int[PAIRS];
        // For each beck the rivers where both would, as bits.
        final int[] mutual = new int[BECKS_MOST];

        Scene(Land land, Law law) {
            this.land = land;
            this.law = law;
        }

        void begin() {
            Arrays.fill(cells, 0);
            // A land ahead may have had rivers that this one hasn't.
            Arrays.fill(mutual, 0);
            for (int b = 0; b < BECKS_MOST; b++) {
                cells[b] = b < land.becks ? land.to[b] : NONE;
            }
            System.arraycopy(land.flow, 0, cells, FLOW, land.becks);
            System.arraycopy(land.room, 0, cells, ROOM, land.rivers);
            measureAll();
        }

        /** All but the land, which is the same one, or has been copied ahead. */
        void copyFrom(Scene other) {
            System.arraycopy(other.cells, 0, cells, 0, CELLS);
            System.arraycopy(other.likes, 0, likes, 0, PAIRS);
            System.arraycopy(other.takes, 0, takes, 0, PAIRS);
            System.arraycopy(other.beckOrder, 0, beckOrder, 0, PAIRS);
            System.arraycopy(other.riverOrder, 0, riverOrder, 0, PAIRS);
            System.arraycopy(other.mutual, 0, mutual, 0, BECKS_MOST);
        }

        int whereOf(int b) {
            return cells[b];
        }

        int flowOf(int b) {
            return cells[FLOW + b];
        }

        int roomOf(int r) {
            return cells[ROOM + r];
        }

        int giftsOf(int b, int r) {
            return cells[GIFTS + pair(b, r)];
        }

        int total(int from, int many) {
            int sum = 0;
            for (int i = from; i < from + many && i < CELLS; i++) {
                sum += cells[i];
            }
            return sum;
        }

        // ---- what is liked

        void measureAll() {
            for (int b = 0; b < land.becks; b++) {
                measureBeck(b, land.mark[b]);
            }
        }

        void measureBeck(int b, int mark) {
            for (int r = 0; r < land.rivers; r++) {
                measure(b, r, mark, giftsOf(b, r));
            }
        }

        void measure(int b, int r, int mark, int gifts) {
            law.setBeck(b, flowOf(b), mark);
            law.setRiver(r, land.name[r], gifts);
            setLiking(b, r, law.value(land.code, land.likesAt), law.value(land.code, land.takesAt));
        }

        void setLiking(int b, int r, int byBeck, int byRiver) {
            int two = pair(b, r);
            likes[two] = byBeck;
            takes[two] = byRiver;
            beckOrder[two] = byBeck * RIVERS_MOST - r;
            riverOrder[two] = byRiver * BECKS_MOST - b;
            if (byBeck > 0 && byRiver > 0) {
                mutual[b] |= 1 << r;
            } else {
                mutual[b] &= ~(1 << r);
            }
        }

        boolean bothWould(int b, int r) {
            return (mutual[b] >> r & 1) != 0;
        }

        boolean likesBetter(int b, int r, int than) {
            return beckOrder[pair(b, r)] > beckOrder[pair(b, than)];
        }

        boolean takesBetter(int r, int b, int than) {
            return riverOrder[pair(b, r)] > riverOrder[pair(than, r)];
        }

        int rankOf(int b, int r) {
            int rank = 0;
            for (int other = 0; other < land.rivers; other++) {
                if (likesBetter(b, other, r)) {
                    rank++;
                }
            }
            return rank;
        }

        int leastLiked(int r, int becks) {
            int least = NONE;
            int lowest = 0;
            int two = r;
            for (int b = 0; b < land.becks; b++) {
                if ((becks >> b & 1) != 0 && (least == NONE || riverOrder[two] < lowest)) {
                    least = b;
                    lowest = riverOrder[two];
                }
                two += RIVERS_MOST;
            }
            return least;
        }

        // ---- where becks are

        int becksIn(int[] where, int r) {
            int becks = 0;
            for (int b = 0; b < land.becks; b++) {
                if (where[b] == r) {
                    becks |= 1 << b;
                }
            }
            return becks;
        }

        int nowhere() {
            return becksIn(cells, NONE);
        }

        int flowOfSet(int becks) {
            int sum = 0;
            for (int b = 0; b < land.becks; b++) {
                if ((becks >> b & 1) != 0) {
                    sum += flowOf(b);
                }
            }
            return sum;
        }

        int flooded() {
            return floodedOf(land.allBecks());
        }

        /** Rivers that flood when only some of the becks are left where they are. */
        private int floodedOf(int left) {
            int rivers = 0;
            for (int r = 0; r < land.rivers; r++) {
                if (overflows(r, left)) {
                    rivers |= 1 << r;
                }
            }
            return rivers;
        }

        boolean overflows(int r, int left) {
            return flowOfSet(becksIn(cells, r) & left) > land.bears[r];
        }

        int fewestToTurnOff() {
            int all = land.allBecks();
            int fewest = all;
            for (int off = 0; off < all; off++) {
                if (Integer.bitCount(off) < Integer.bitCount(fewest) && floodedOf(all & ~off) == 0) {
                    fewest = off;
                }
            }
            return fewest;
        }

        boolean isHeld(int[] where) {
            for (int b = 0; b < land.becks; b++) {
                if (where[b] != NONE && !bothWould(b, where[b]) || breakersOf(where, b) != 0) {
                    return false;
                }
            }
            return true;
        }

        /** The rivers that break a choice together with a beck, as bits. */
        int breakersOf(int[] where, int b) {
            int rivers = 0;
            for (int r = 0; r < land.rivers; r++) {
                if (bothWould(b, r) && wouldMove(where[b], b, r) && wouldAdmit(where, r, b)) {
                    rivers |= 1 << r;
                }
            }
            return rivers;
        }

        private boolean wouldMove(int from, int b, int r) {
            return from == NONE || from != r && likesBetter(b, r, from);
        }

        private boolean wouldAdmit(int[] where, int r, int b) {
            int there = becksIn(where, r);
            if (Integer.bitCount(there) < roomOf(r)) {
                return true;
            }
            int least = leastLiked(r, there);
            return least != NONE && takesBetter(r, b, least);
        }

        // ---- deeds: what the call answers, or below NONE why not

        int goInto(int b, int r) {
            if (!land.hasBeck(b) || !land.hasRiver(r)) {
                return WHY_NO_SUCH;
            }
            if (cells[b] == r) {
                return WHY_IT_IS_SO;
            }
            if (!bothWould(b, r)) {
                return WHY_WOULDNT;
            }
            if (!wouldAdmit(cells, r, b)) {
                return WHY_NO_ROOM;
            }
            int there = becksIn(cells, r);
            int out = Integer.bitCount(there) < roomOf(r) ? NONE : leastLiked(r, there);
            if (out != NONE) {
                cells[out] = NONE;
            }
            cells[b] = r;
            return out;
        }

        int goOut(int b) {
            if (!land.hasBeck(b)) {
                return WHY_NO_SUCH;
            }
            int from = cells[b];
            if (from == NONE) {
                return WHY_IT_IS_SO;
            }
            cells[b] = NONE;
            return from;
        }

        int give(int r, int b, int n) {
            if (!land.hasBeck(b) || !land.hasRiver(r) || n < 1 || n > GIFTS_MOST) {
                return WHY_NO_SUCH;
            }
            int sent = giftsOf(b, r) + n;
            if (sent > GIFTS_MOST) {
                return WHY_IT_IS_SO;
            }
            cells[GIFTS + pair(b, r)] = sent;
            measure(b, r, land.mark[b], sent);
            return sent;
        }

        int pour(int b, int flow) {
            if (!land.hasBeck(b) || flow < 0 || flow > FLOW_MOST) {
                return WHY_NO_SUCH;
            }
            int had = flowOf(b);
            cells[FLOW + b] = flow;
            measureBeck(b, land.mark[b]);
            return had;
        }

        int widen(int r, int n) {
            if (!land.hasRiver(r) || n < 0 || n > ROOM_MOST) {
                return WHY_NO_SUCH;
            }
            cells[ROOM + r] = n;
            int there = becksIn(cells, r);
            int pushedOut = 0;
            for (int i = 0; i < BECKS_MOST && Integer.bitCount(there) > n; i++) {
                int least = leastLiked(r, there);
                if (least != NONE) {
                    cells[least] = NONE;
                    there &= ~(1 << least);
                    pushedOut++;
                }
            }
            return pushedOut;
        }

        /** Does a told deed: 0, or why it can't be. */
        int whyNot(long told) {
            int number = told < 0 || told > 499 ? NONE : (int) told;
            int tens = number / 10 % 10;
            int ones = number % 10;
            int answer = WHY_NO_SUCH;
            switch (number < 0 ? NONE : number / 100) {
                case 0: answer = goInto(tens, ones); break;
                case 1: answer = tens == 0 ? goOut(ones) : WHY_NO_SUCH; break;
                case 2: answer = give(tens, ones, 1); break;
                case 3: answer = pour(tens, ones); break;
                case 4: answer = widen(tens, ones); break;
                default: break;
            }
            return answer < NONE ? WHY_NOT - answer : 0;
        }

        /** Does told deeds till one can't be: how many. That one changes nothing, so it may be asked again. */
        int doAll(Tray tray) {
            int done = 0;
            while (done < tray.size && whyNot(tray.at(done)) == 0) {
                done++;
            }
            return done;
        }
    }

    /** What calls changed, to bring it back: a ring, in which a new one takes the eldest's place. */
    private static final class Past {
        private final int[][] ring = new int[UNDOS_MOST][Scene.CELLS];
        private final int[] before = new int[Scene.CELLS];
        private int next;
        int size;

        void look(int[] cells) {
            System.arraycopy(cells, 0, before, 0, Scene.CELLS);
        }

        void keep() {
            System.arraycopy(before, 0, ring[next], 0, Scene.CELLS);
            next = (next + 1) % UNDOS_MOST;
            size = Math.min(size + 1, UNDOS_MOST);
        }

        void bringBack(int n, int[] cells) {
            if (n < 1 || n > size) {
                return;
            }
            next = (next + UNDOS_MOST - n) % UNDOS_MOST;
            size -= n;
            System.arraycopy(ring[next], 0, cells, 0, Scene.CELLS);
        }

        void forget() {
            size = 0;
        }
    }

    /** The two choices at the ends of all that hold: each side asks in turn, the other keeps the best so far. */
    private static final class Match {
        final int[] where = new int[BECKS_MOST];
        // For each river the becks there, as bits, and how many; for each that asks whom it has asked, as bits.
        private final int[] there = new int[RIVERS_MOST];
        private final int[] crowd = new int[RIVERS_MOST];
        private final int[] asked = new int[BECKS_MOST];

        private void clear() {
            for (int b = 0; b < BECKS_MOST; b++) {
                where[b] = NONE;
                asked[b] = 0;
            }
            for (int r = 0; r < RIVERS_MOST; r++) {
                there[r] = 0;
                crowd[r] = 0;
            }
        }

        private void comeIn(int b, int r) {
            where[b] = r;
            there[r] |= 1 << b;
            crowd[r]++;
        }

        private void goOff(int b, int r) {
            where[b] = NONE;
            there[r] &= ~(1 << b);
            crowd[r]--;
        }

        /** Becks that don't run are nowhere. */
        void bestForBecks(Scene scene, int running) {
            clear();
            for (int b = 0; b < scene.land.becks; b++) {
                if ((running >> b & 1) != 0) {
                    settle(scene, b);
                }
            }
        }

        /** Whoever is pushed out asks on; no beck asks a river twice, so there is an end. */
        private void settle(Scene scene, int first) {
            int b = first;
            for (int i = 0; i < PAIRS && b != NONE; i++) {
                int r = nextRiver(scene, b);
                b = r == NONE ? NONE : admit(scene, b, r);
            }
        }

        private int nextRiver(Scene scene, int b) {
            int open = scene.mutual[b] & ~asked[b];
            int row = pair(b, 0);
            int best = NONE;
            int highest = 0;
            for (int r = 0; open >> r != 0 && r < RIVERS_MOST; r++) {
                if ((open >> r & 1) != 0 && (best == NONE || scene.beckOrder[row + r] > highest)) {
                    best = r;
                    highest = scene.beckOrder[row + r];
                }
            }
            return best;
        }

        /** Who must go on for it, if the room is too small. */
        private int admit(Scene scene, int b, int r) {
            asked[b] |= 1 << r;
            comeIn(b, r);
            if (crowd[r] <= scene.roomOf(r)) {
                return NONE;
            }
            int out = scene.leastLiked(r, there[r]);
            if (out != NONE) {
                goOff(out, r);
            }
            return out;
        }

        void bestForRivers(Scene scene) {
            clear();
            boolean asking = true;
            for (int i = 0; i <= PAIRS && asking; i++) {
                asking = false;
                for (int r = 0; r < scene.land.rivers; r++) {
                    asking |= asksOne(scene, r);
                }
            }
        }

        private boolean asksOne(Scene scene, int r) {
            int b = crowd[r] < scene.roomOf(r) ? nextBeck(scene, r) : NONE;
            if (b == NONE) {
                return false;
            }
            asked[r] |= 1 << b;
            int from = where[b];
            if (from == NONE) {
                comeIn(b, r);
            } else if (scene.likesBetter(b, r, from)) {
                goOff(b, from);
                comeIn(b, r);
            }
            return true;
        }

        private int nextBeck(Scene scene, int r) {
            int best = NONE;
            for (int b = 0; b < scene.land.becks; b++) {
                boolean open = scene.bothWould(b, r) && (asked[r] >> b & 1) == 0;
                if (open && (best == NONE || scene.takesBetter(r, b, best))) {
                    best = b;
                }
            }
            return best;
        }
    }

    /** Goes through choices in the order of their numbers: the highest beck is placed first, nowhere first. */
    private static final class Survey {
        private final Match match;
        private Scene scene;
        final int[] best = new int[BECKS_MOST];
        final int[] worst = new int[BECKS_MOST];
        private final int[] open = new int[BECKS_MOST];
        private final int[] where = new int[BECKS_MOST];
        private final int[] crowd = new int[RIVERS_MOST];
        private int wanted;
        int wantedNumber;
        int found;
        int fairestNumber;
        private int fairestRank;
        final int[] seenIn = new int[BECKS_MOST];
        final int[] mostFlow = new int[RIVERS_MOST];

        Survey(Match match) {
            this.match = match;
        }

        void bound(Scene of) {
            match.bestForBecks(of, of.land.allBecks());
            System.arraycopy(match.where, 0, best, 0, BECKS_MOST);
            match.bestForRivers(of);
            System.arraycopy(match.where, 0, worst, 0, BECKS_MOST);
        }

        /** All that hold are counted and weighed; the number of one of them, by its place, is kept. */
        void goThrough(Scene of, int place) {
            scene = of;
            wanted = place;
            wantedNumber = NONE;
            found = 0;
            fairestNumber = NONE;
            fairestRank = NOWHERE_RANK + 1;
            Arrays.fill(seenIn, 0);
            Arrays.fill(mostFlow, 0);
            Arrays.fill(crowd, 0);
            bound(of);
            for (int b = 0; b < of.land.becks; b++) {
                open[b] = between(b);
            }
            placeFrom(of.land.becks - 1);
        }

        /** In all that hold a beck is no better off than in the best, no worse than in the worst. */
        private int between(int b) {
            int rivers = 0;
            if (best[b] == NONE || worst[b] == NONE) {
                return rivers;
            }
            for (int r = 0; r < scene.land.rivers; r++) {
                boolean within = !scene.likesBetter(b, r, best[b]) && !scene.likesBetter(b, worst[b], r);
                if (scene.bothWould(b, r) && within) {
                    rivers |= 1 << r;
                }
            }
            return rivers;
        }

        private void placeFrom(int b) {
            if (b < 0) {
                if (scene.isHeld(where)) {
                    weigh();
                }
                return;
            }
            if (open[b] == 0) {
                where[b] = NONE;
                placeFrom(b - 1);
                return;
            }
            for (int r = 0; r < scene.land.rivers; r++) {
                if ((open[b] >> r & 1) != 0 && crowd[r] < scene.roomOf(r)) {
                    where[b] = r;
                    crowd[r]++;
                    placeFrom(b - 1);
                    crowd[r]--;
                }
            }
        }

        private void weigh() {
            int greatest = 0;
            for (int b = 0; b < scene.land.becks; b++) {
                int r = where[b];
                greatest = Math.max(greatest, r == NONE ? NOWHERE_RANK : scene.rankOf(b, r));
                seenIn[b] |= r == NONE ? 0 : 1 << r;
            }
            for (int r = 0; r < scene.land.rivers; r++) {
                mostFlow[r] = Math.max(mostFlow[r], scene.flowOfSet(scene.becksIn(where, r)));
            }
            if (greatest < fairestRank) {
                fairestRank = greatest;
                fairestNumber = numberOf();
            }
            if (found == wanted) {
                wantedNumber = numberOf();
            }
            found++;
        }

        private int numberOf() {
            int number = 0;
            for (int b = scene.land.becks - 1; b >= 0; b--) {
                number = number * CHOICE_BASE + where[b] + 1;
            }
            return number;
        }

        /** With ever more becks that may be nowhere: the first choice found leaves as few so as can be. */
        int fullestNumber(Scene of) {
            scene = of;
            Arrays.fill(crowd, 0);
            for (int idle = 0; idle <= of.land.becks; idle++) {
                if (fillsFrom(of.land.becks - 1, idle)) {
                    return numberOf();
                }
            }
            return 0;
        }

        private boolean fillsFrom(int b, int idle) {
            if (b < 0) {
                return true;
            }
            where[b] = NONE;
            if (idle > 0 && fillsFrom(b - 1, idle - 1)) {
                return true;
            }
            for (int r = 0; r < scene.land.rivers; r++) {
                if (scene.bothWould(b, r) && crowd[r] < scene.roomOf(r)) {
                    where[b] = r;
                    crowd[r]++;
                    if (fillsFrom(b - 1, idle)) {
                        return true;
                    }
                    crowd[r]--;
                }
            }
            return false;
        }
    }

    /** The least gifts by which a river has flow enough: by how many together, then in the order of becks. */
    private static final class Wooing {
        private final Scene trial;
        private final Match match;
        private int river;
        private int enough;
        // For each beck and each number of gifts more: what both like, and the river's rank (NONE: one wouldn't).
        private final int[] likes = new int[BECKS_MOST * WOOS_A_BECK];
        private final int[] takes = new int[BECKS_MOST * WOOS_A_BECK];
        private final int[] ranks = new int[BECKS_MOST * WOOS_A_BECK];
        // How many gifts more are worth a try, as bits, and how many at most from a beck on.
        private final int[] worth = new int[BECKS_MOST];
        private final int[] mostFrom = new int[BECKS_MOST + 1];
        private int willing;
        final int[] given = new int[BECKS_MOST];

        Wooing(Scene trial, Match match) {
            this.trial = trial;
            this.match = match;
        }

        /** How many together, NONE if none do; given tells to whom then. */
        int least(Scene now, int r, int wanted) {
            river = r;
            enough = wanted;
            trial.copyFrom(now);
            willing = 0;
            mostFrom[trial.land.becks] = 0;
            for (int b = trial.land.becks - 1; b >= 0; b--) {
                weighGifts(b);
                mostFrom[b] = mostFrom[b + 1] + 31 - Integer.numberOfLeadingZeros(worth[b]);
            }
            if (!canBeEnough()) {
                return NONE;
            }
            for (int together = 0; together <= GIFTS_MOST; together++) {
                if (givesFrom(0, together)) {
                    return together;
                }
            }
            return NONE;
        }

        private void weighGifts(int b) {
            int had = trial.giftsOf(b, river);
            worth[b] = 0;
            for (int more = 0; had + more <= GIFTS_MOST; more++) {
                trial.measure(b, river, trial.land.mark[b], had + more);
                likes[level(b, more)] = trial.likes[pair(b, river)];
                takes[level(b, more)] = trial.takes[pair(b, river)];
                ranks[level(b, more)] = NONE;
                if (trial.bothWould(b, river)) {
                    ranks[level(b, more)] = trial.rankOf(b, river);
                    willing |= 1 << b;
                }
                if (isNew(b, more)) {
                    worth[b] |= 1 << more;
                }
            }
        }

        private static int level(int b, int more) {
            return b * WOOS_A_BECK + more;
        }

        /** Gifts that change nothing against fewer are never among the least. */
        private boolean isNew(int b, int more) {
            int here = level(b, more);
            for (int fewer = level(b, 0); fewer < here; fewer++) {
                if (ranks[fewer] == ranks[here] && (ranks[here] == NONE || takes[fewer] == takes[here])) {
                    return false;
                }
            }
            return true;
        }

        /** Whether any becks that could ever be there, as many as there is room for, have so much flow. */
        private boolean canBeEnough() {
            for (int becks = 0; becks <= trial.land.allBecks(); becks++) {
                boolean couldBe = (becks & ~willing) == 0 && Integer.bitCount(becks) <= trial.roomOf(river);
                if (couldBe && trial.flowOfSet(becks) >= enough) {
                    return true;
                }
            }
            return false;
        }

        private boolean givesFrom(int b, int left) {
            if (b >= trial.land.becks) {
                return left == 0 && hasEnough();
            }
            if (left > mostFrom[b]) {
                return false;
            }
            int first = Math.max(0, left - mostFrom[b + 1]);
            for (int more = first; more <= left && more < WOOS_A_BECK; more++) {
                if ((worth[b] >> more & 1) != 0) {
                    given[b] = more;
                    trial.setLiking(b, river, likes[level(b, more)], takes[level(b, more)]);
                    if (givesFrom(b + 1, left - more)) {
                        return true;
                    }
                }
            }
            return false;
        }

        private boolean hasEnough() {
            match.bestForBecks(trial, trial.land.allBecks());
            return trial.flowOfSet(trial.becksIn(match.where, river)) >= enough;
        }
    }

    /** What would be if a beck lied, had another mark, or some ran dry. */
    private static final class Supposing {
        private final Scene trial;
        private final Match match;
        private final int[] answers = new int[BECKS_MOST];
        private int marksHeld;
        // For each river by how many of those marks the beck would go there.
        private final int[] wouldBy = new int[RIVERS_MOST];
        int above;
        int below;

        Supposing(Scene trial, Match match) {
            this.trial = trial;
            this.match = match;
        }

        /**
         * The best river to be had by a lie, NONE if none is better than by the truth. It is enough to tell that
         * river alone: what holds by a longer lie holds by this one too, and a beck that is somewhere in one
         * choice that holds is so in all of them. So the least number of such a lie is the river's and 1.
         */
        int gainByLying(Scene now, int b) {
            match.bestForRivers(now);
            int best = match.where[b];
            boolean gained = false;
            for (int r = 0; r < now.land.rivers; r++) {
                boolean better = best == NONE || now.likesBetter(b, r, best);
                if (now.bothWould(b, r) && better && getsByTelling(now, b, r)) {
                    best = r;
                    gained = true;
                }
            }
            return gained ? best : NONE;
        }

        private boolean getsByTelling(Scene now, int b, int told) {
            trial.copyFrom(now);
            for (int r = 0; r < now.land.rivers; r++) {
                trial.setLiking(b, r, r == told ? 1 : 0, now.takes[pair(b, r)]);
            }
            match.bestForRivers(trial);
            return match.where[b] == told;
        }

        /** Takes answers down from a tray with as many numbers as becks: whether they are a choice. */
        boolean hear(Scene now, Tray tray) {
            for (int b = 0; b < now.land.becks; b++) {
                long told = tray.at(b);
                if (told < NONE || told >= now.land.rivers) {
                    return false;
                }
                answers[b] = (int) told;
            }
            for (int r = 0; r < now.land.rivers; r++) {
                if (Integer.bitCount(now.becksIn(answers, r)) > now.roomOf(r)) {
                    return false;
                }
            }
            return true;
        }

        int marksThatHold(Scene now, int b) {
            trial.copyFrom(now);
            marksHeld = 0;
            Arrays.fill(wouldBy, 0);
            for (int mark = 0; mark <= MARK_MOST; mark++) {
                trial.measureBeck(b, mark);
                if (trial.isHeld(answers)) {
                    marksHeld |= 1 << mark;
                    countWilling(b);
                }
            }
            return marksHeld;
        }

        private void countWilling(int b) {
            for (int r = 0; r < trial.land.rivers; r++) {
                if (trial.likes[pair(b, r)] > 0) {
                    wouldBy[r]++;
                }
            }
        }

        int bestQuestion(int rivers) {
            int best = NONE;
            int most = NONE;
            int all = Integer.bitCount(marksHeld);
            for (int r = 0; r < rivers && all > 0; r++) {
                int lesser = Math.min(wouldBy[r], all - wouldBy[r]);
                if (lesser > most) {
                    most = lesser;
                    best = r;
                }
            }
            return best;
        }

        void chanceOfFlood(Scene now, int r) {
            int sum = 0;
            for (int running = 0; running <= now.land.allBecks(); running++) {
                if (now.overflows(r, running)) {
                    sum += weightOf(now.land, running);
                }
            }
            tellInLowestTerms(sum, wholeOf(now.land));
        }

        void chanceOfStaying(Scene now, int b) {
            match.bestForBecks(now, now.land.allBecks());
            int home = match.where[b];
            int sum = 0;
            for (int running = 0; running <= now.land.allBecks() && home != NONE; running++) {
                int weight = (running >> b & 1) != 0 ? weightOf(now.land, running) : 0;
                if (weight > 0) {
                    match.bestForBecks(now, running);
                    sum += match.where[b] == home ? weight : 0;
                }
            }
            tellInLowestTerms(sum, wholeOf(now.land));
        }

        /** How likely just these run, in so many as wholeOf tells. */
        private static int weightOf(Land land, int running) {
            int weight = 1;
            for (int b = 0; b < land.becks; b++) {
                weight *= (running >> b & 1) != 0 ? DRY_OF - land.dry[b] : land.dry[b];
            }
            return weight;
        }

        private static int wholeOf(Land land) {
            int whole = 1;
            for (int b = 0; b < land.becks; b++) {
                whole *= DRY_OF;
            }
            return whole;
        }

        private void tellInLowestTerms(int part, int whole) {
            int divisor = whole;
            int rest = part;
            for (int i = 0; i < 64 && rest != 0; i++) {
                int next = divisor % rest;
                divisor = rest;
                rest = next;
            }
            above = divisor == 0 ? part : part / divisor;
            below = divisor == 0 ? whole : whole / divisor;
        }
    }

    /** A row of numbers of one sort, or missing. */
    private static final class Tray {
        private final long[] numbers = new long[TRAY_MOST];
        private int sort = NONE;
        int size;

        boolean missing() {
            return sort == NONE;
        }

        void make(int newSort, int n) {
            sort = newSort;
            size = Math.max(0, Math.min(n, TRAY_MOST));
            Arrays.fill(numbers, 0L);
        }

        boolean hasPlace(int i) {
            return i >= 0 && i < size;
        }

        long at(int i) {
            return hasPlace(i) ? numbers[i] : 0L;
        }

        long put(int i, long v) {
            long cut = cutTo(v);
            if (hasPlace(i)) {
                numbers[i] = cut;
            }
            return cut;
        }

        private long cutTo(long v) {
            switch (sort) {
                case 0: return (byte) v;
                case 1: return (short) v;
                case 2: return (int) v;
                default: return v;
            }
        }
    }
}
