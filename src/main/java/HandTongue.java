import java.util.Arrays;

/** A house for a tongue of hands: signs, seams, watchers, readings, a book and signers of regions. */
public final class HandTongue {
    public static final int NONE = -1;

    private static final int NO_NUMBER = -1;
    private static final int NO_SUCH = -2;
    private static final int TWICE = -4;
    private static final int NO_ROOM = -5;
    private static final int NO_TEXT = -6;

    private static final int SHAPE = 0;
    private static final int PLACE = 1;
    private static final int TURN = 2;
    private static final int OTHER = 3;
    private static final int MARKS = 4;
    private static final int STATES = 4;
    private static final int SIGNS = 10;
    private static final int PLACES = 20;
    private static final int DAYS = 1000;
    private static final int FRAMES = 20;
    private static final int WATCHERS = 2;
    private static final int CONCEPTS = 4;
    private static final int REGIONS = 3;
    private static final int SIGNERS = 10;
    private static final int IMAGES = 2;
    private static final int MOST_PRICE = 1000;
    private static final int MOST_SLIDES = 3;
    private static final int MOST_RIVALS = 1000;

    /** Above every cost and key, and so low that four of them together stay an int. */
    private static final int FAR = 1 << 28;

    private final House live = new House();
    private final House[] images = {new House(), new House()};
    private final boolean[] kept = new boolean[IMAGES];
    private final Tape tape = new Tape();
    private final Grammar grammar = new Grammar(tape);
    private final Seams seams = new Seams(live.book, live.rules);
    private final Frames frames = new Frames();
    private final Rows rows = new Rows(live.book, seams, frames);
    private final Line latest = new Line();
    private final Line trial = new Line();
    private final int[] asked = new int[3];
    private int latestFrom;
    private int fault = NONE;
    private int status;

    public HandTongue() {
    }

    public int feed(int a, int b, int c, int d, int e) {
        if (!tape.hasRoom()) {
            return NONE;
        }
        tape.append(a);
        tape.append(b);
        tape.append(c);
        tape.append(d);
        tape.append(e);
        return tape.length;
    }

    public int end(int n) {
        if (n < 0 || n > tape.length) {
            return NONE;
        }
        tape.length = n;
        return n;
    }

    public int sign() {
        Book book = live.book;
        if (book.signs >= SIGNS) {
            tape.length = 0;
            return settle(NO_ROOM);
        }
        boolean good = grammar.readSign();
        closeText(good);
        return settle(good ? book.add(grammar.states, grammar.size) : NO_TEXT);
    }

    public int rules() {
        boolean good = grammar.readRules();
        closeText(good);
        if (!good) {
            return settle(NO_TEXT);
        }
        live.rules.copyFrom(grammar.draft);
        return settle(live.rules.held);
    }

    public int fault() {
        return fault;
    }

    public int place(int place, int x, int y) {
        if (!within(place, PLACES) || !within(x, 21) || !within(y, 21)) {
            return settle(NO_NUMBER);
        }
        live.book.xs[place] = x;
        live.book.ys[place] = y;
        return settle(0);
    }

    public int weight(int mark, int weight) {
        if (!within(mark, MARKS) || !within(weight, 21)) {
            return settle(NO_NUMBER);
        }
        int was = live.book.weights[mark];
        live.book.weights[mark] = weight;
        return settle(was);
    }

    public int prices(int slide, int sign) {
        if (!within(slide, MOST_PRICE + 1) || !within(sign, MOST_PRICE + 1)) {
            return settle(NO_NUMBER);
        }
        live.book.slidePrice = slide;
        live.book.signPrice = sign;
        return settle(0);
    }

    public int mark(int sign, int state, int mark) {
        if (!isSign(sign)) {
            return NONE;
        }
        seams.take(sign);
        return ofSurface(state, mark);
    }

    public int surface(int a, int b, int c, int state, int mark) {
        if (!isSign(b) || !isSignOrNone(a) || !isSignOrNone(c)) {
            return NONE;
        }
        seams.raise(a, b, c);
        return ofSurface(state, mark);
    }

    public int distance(int mark, int a, int b) {
        if (!Book.fits(mark, a) || !Book.fits(mark, b)) {
            return NONE;
        }
        return live.book.distanceOf(mark, a, b);
    }

    public int sight(int watcher, int frame, int shape, int place, int turn, int other, int known) {
        if (!within(watcher, WATCHERS) || !within(frame, FRAMES) || !within(known, DAYS)
                || !areSeen(shape, place, turn, other)) {
            return settle(NO_NUMBER);
        }
        Watch watch = live.watch;
        if (watch.sights >= Watch.ROOM) {
            return settle(NO_ROOM);
        }
        watch.put(SHAPE, shape);
        watch.put(PLACE, place);
        watch.put(TURN, turn);
        watch.put(OTHER, other);
        return settle(watch.tell(watcher, frame, known));
    }

    public int trust(int watcher, int trust) {
        if (!within(watcher, WATCHERS) || !within(trust, 101)) {
            return settle(NO_NUMBER);
        }
        int was = live.watch.trusts[watcher];
        live.watch.trusts[watcher] = trust;
        return settle(was);
    }

    public int joined(int frame, int mark, int known) {
        if (!within(frame, FRAMES) || !within(mark, MARKS) || !within(known, DAYS)) {
            return NONE;
        }
        live.watch.gather(known);
        return live.watch.join(frame, mark);
    }

    public int clashes(int from, int to, int known) {
        if (!isSpan(from, to, known)) {
            return NONE;
        }
        live.watch.gather(known);
        return live.watch.countClashes(from, to);
    }

    public int read(int from, int to, int known) {
        if (!isSpan(from, to, known)) {
            return settle(NO_NUMBER);
        }
        frames.look(live, from, to, known);
        rows.weigh();
        if (rows.leastKey() >= FAR) {
            return settle(NO_TEXT);
        }
        rows.findBest();
        latest.lay(seams, rows.row, rows.length);
        int least = latest.measure(frames, live.book);
        latest.follow(live.book.slidePrice);
        latestFrom = from;
        return settle(least);
    }

    public int best(int i) {
        if (i == NONE && latest.signs > 0) {
            return latest.signs;
        }
        return within(i, latest.signs) ? latest.row[i] : NONE;
    }

    public int led(int frame, int what) {
        if (!within(frame, FRAMES) || !within(what, 2) || !within(frame - latestFrom, latest.frames)) {
            return NONE;
        }
        return what == 0 ? latest.ledPlaces[frame - latestFrom] : latest.ledStates[frame - latestFrom];
    }

    public int rivals(int from, int to, int known, int n) {
        if (!isSpan(from, to, known) || !within(n, 201)) {
            return NONE;
        }
        frames.look(live, from, to, known);
        rows.weigh();
        return rows.leastKey() >= FAR ? NONE : rows.countWithin(n);
    }

    public int cost(int a, int b, int c, int from, int to, int known) {
        if (!isSpan(from, to, known)) {
            return settle(NO_NUMBER);
        }
        int length = b == NONE ? 1 : c == NONE ? 2 : 3;
        if (!isSign(a) || length > 1 && !isSign(b) || length > 2 && !isSign(c)) {
            return settle(NO_SUCH);
        }
        asked[0] = a;
        asked[1] = b;
        asked[2] = c;
        frames.look(live, from, to, known);
        trial.lay(seams, asked, length);
        int least = trial.measure(frames, live.book);
        return settle(least == NONE ? NO_TEXT : least);
    }

    public int near(int a, int b) {
        return isSign(a) && isSign(b) ? live.book.onlyDifference(a, b) : NONE;
    }

    public int gap(int a, int b) {
        return isSign(a) && isSign(b) ? live.book.leastGap(a, b) : NONE;
    }

    public int nearest(int sign) {
        return isSign(sign) ? live.book.nearestTo(sign) : NONE;
    }

    public int parting() {
        return live.book.leastParting();
    }

    public int like(int shape, int place, int turn, int other) {
        return areSeen(shape, place, turn, other) ? live.book.alike(shape, place, turn, other) : NONE;
    }

    public int variant(int concept, int sign) {
        if (!within(concept, CONCEPTS)) {
            return settle(NO_NUMBER);
        }
        if (!isSign(sign)) {
            return settle(NO_SUCH);
        }
        return settle(live.folk.addVariant(concept, sign));
    }

    public int use(int concept, int sign, int region, int parts) {
        if (!within(concept, CONCEPTS) || !within(region, REGIONS) || !within(parts, 10)) {
            return settle(NO_NUMBER);
        }
        if (!isSign(sign) || !live.folk.isVariant(concept, sign)) {
            return settle(NO_SUCH);
        }
        live.folk.setParts(concept, sign, region, parts);
        return settle(0);
    }

    public int prior(int region, int parts) {
        if (!within(region, REGIONS) || parts < 1 || parts > 100) {
            return settle(NO_NUMBER);
        }
        int was = live.folk.priors[region];
        live.folk.priors[region] = parts;
        return settle(was);
    }

    public int used(int signer, int concept, int sign, int known) {
        if (!within(signer, SIGNERS) || !within(concept, CONCEPTS) || !within(known, DAYS)) {
            return settle(NO_NUMBER);
        }
        if (!isSign(sign)) {
            return settle(NO_SUCH);
        }
        return settle(live.folk.tell(signer, concept, sign, known));
    }

    public int counts(int signer, int concept, int known) {
        if (!within(signer, SIGNERS) || !within(concept, CONCEPTS) || !within(known, DAYS)) {
            return NONE;
        }
        return live.folk.counted(signer, concept, known);
    }

    public long share(int signer, int region, int known, int what) {
        if (!within(signer, SIGNERS) || !within(region, REGIONS) || !within(known, DAYS) || !within(what, 2)) {
            return NONE;
        }
        Folk folk = live.folk;
        folk.weigh(signer, known);
        long all = folk.allOdds();
        long part = folk.odds[region];
        long divisor = Folk.commonDivisor(all, part);
        if (all <= 0 || divisor <= 0) {
            return NONE;
        }
        return what == 0 ? part / divisor : all / divisor;
    }

    public int region(int signer, int known) {
        if (!within(signer, SIGNERS) || !within(known, DAYS)) {
            return NONE;
        }
        live.folk.weigh(signer, known);
        return live.folk.likeliest();
    }

    public int image(int k) {
        if (!within(k, IMAGES)) {
            return settle(NO_NUMBER);
        }
        images[k].copyFrom(live);
        kept[k] = true;
        return settle(0);
    }

    public int back(int k) {
        if (!within(k, IMAGES)) {
            return settle(NO_NUMBER);
        }
        if (!kept[k]) {
            return settle(NO_SUCH);
        }
        live.copyFrom(images[k]);
        return settle(0);
    }

    public int count(int what) {
        switch (what) {
            case 0:
                return live.book.signs;
            case 1:
                return live.rules.held;
            case 2:
                return live.watch.sights;
            case 3:
                return live.folk.told;
            case 4:
                return tape.length;
            default:
                return NONE;
        }
    }

    public int status() {
        return status;
    }

    /** Every answer below 0 of a call that status tells of is what it was refused by. */
    private int settle(int answer) {
        status = Math.min(answer, 0);
        return answer;
    }

    private void closeText(boolean good) {
        fault = good ? NONE : grammar.faultPlace();
        tape.length = 0;
    }

    private int ofSurface(int state, int mark) {
        if (state == NONE) {
            return seams.size;
        }
        if (!within(state, seams.size) || !within(mark, MARKS)) {
            return NONE;
        }
        return Book.markOf(seams.states[state], mark);
    }

    private boolean isSign(int sign) {
        return within(sign, live.book.signs);
    }

    private boolean isSignOrNone(int sign) {
        return sign == NONE || isSign(sign);
    }

    private static boolean isSpan(int from, int to, int known) {
        return from >= 0 && from <= to && to < FRAMES && within(known, DAYS);
    }

    private static boolean areSeen(int shape, int place, int turn, int other) {
        return isSeen(SHAPE, shape) && isSeen(PLACE, place) && isSeen(TURN, turn) && isSeen(OTHER, other);
    }

    private static boolean isSeen(int mark, int value) {
        return value == NONE || Book.fits(mark, value);
    }

    private static boolean within(int number, int bound) {
        return number >= 0 && number < bound;
    }

    /** All that an image keeps. */
    private static final class House {
        final Book book = new Book();
        final Rules rules = new Rules();
        final Watch watch = new Watch();
        final Folk folk = new Folk();

        void copyFrom(House from) {
            book.copyFrom(from.book);
            rules.copyFrom(from.rules);
            watch.copyFrom(from.watch);
            folk.copyFrom(from.folk);
        }
    }

    /** The signs as told, with the distances and prices. A state is one int: its four marks side by side. */
    private static final class Book {
        private static final int[] VALUES = {243, 20, 8, 10};
        private static final int[] SHIFTS = {0, 8, 13, 16};
        private static final int[] MASKS = {255, 31, 7, 15};
        private static final int FINGERS = 5;
        private static final int ALL_MARKS = 1 << STATES * MARKS;

        final int[] states = new int[SIGNS * STATES];
        final int[] sizes = new int[SIGNS];
        final int[] xs = new int[PLACES];
        final int[] ys = new int[PLACES];
        final int[] weights = {1, 1, 1, 1};
        private final int[] lane = new int[STATES];
        private final int[] partings = new int[SIGNS * SIGNS];
        private int pairs;
        int signs;
        int slidePrice = 5;
        int signPrice = 1;

        static boolean fits(int mark, int value) {
            return within(mark, MARKS) && within(value, VALUES[mark]);
        }

        static int markOf(int state, int mark) {
            return state >> SHIFTS[mark] & MASKS[mark];
        }

        static int withMark(int state, int mark, int value) {
            return state & ~(MASKS[mark] << SHIFTS[mark]) | value << SHIFTS[mark];
        }

        int add(int[] told, int size) {
            System.arraycopy(told, 0, states, signs * STATES, size);
            sizes[signs] = size;
            signs++;
            return signs - 1;
        }

        int stateOf(int sign, int state) {
            return states[sign * STATES + state];
        }

        int distanceOf(int mark, int a, int b) {
            switch (mark) {
                case SHAPE:
                    return bendsApart(a, b);
                case PLACE:
                    return Math.abs(xs[a] - xs[b]) + Math.abs(ys[a] - ys[b]);
                case TURN:
                    return Math.min(Math.abs(a - b), VALUES[TURN] - Math.abs(a - b));
                default:
                    return a == b ? 0 : 1;
            }
        }

        private static int bendsApart(int a, int b) {
            int sum = 0;
            int restA = a;
            int restB = b;
            for (int finger = 0; finger < FINGERS; finger++) {
                sum += Math.abs(restA % 3 - restB % 3);
                restA /= 3;
                restB /= 3;
            }
            return sum;
        }

        private int statesApart(int a, int b) {
            int sum = 0;
            for (int mark = 0; mark < MARKS; mark++) {
                sum += weights[mark] * distanceOf(mark, markOf(a, mark), markOf(b, mark));
            }
            return sum;
        }

        /** One bit for each mark of a state by which two signs part. */
        private int differences(int a, int b) {
            int bits = 0;
            for (int state = 0; state < STATES; state++) {
                boolean inA = state < sizes[a];
                boolean inB = state < sizes[b];
                for (int mark = 0; mark < MARKS; mark++) {
                    boolean unlike = inA && inB
                            ? markOf(stateOf(a, state), mark) != markOf(stateOf(b, state), mark)
                            : inA != inB;
                    if (unlike) {
                        bits |= 1 << state * MARKS + mark;
                    }
                }
            }
            return bits;
        }

        int onlyDifference(int a, int b) {
            int bits = differences(a, b);
            boolean one = sizes[a] == sizes[b] && Integer.bitCount(bits) == 1;
            return one ? Integer.numberOfTrailingZeros(bits) : NONE;
        }

        int leastGap(int a, int b) {
            int width = sizes[b];
            for (int i = 0; i < sizes[a]; i++) {
                int corner = i == 0 ? 0 : FAR;
                int left = FAR;
                for (int j = 0; j < width; j++) {
                    int above = i == 0 ? FAR : lane[j];
                    int ahead = Math.min(corner, Math.min(left, above));
                    left = ahead + statesApart(stateOf(a, i), stateOf(b, j));
                    lane[j] = left;
                    corner = above;
                }
            }
            return lane[width - 1];
        }

        int nearestTo(int sign) {
            int nearest = NONE;
            int least = FAR;
            for (int other = 0; other < signs; other++) {
                if (other != sign) {
                    int apart = leastGap(sign, other);
                    if (apart < least) {
                        least = apart;
                        nearest = other;
                    }
                }
            }
            return nearest;
        }

        int leastParting() {
            gatherPartings();
            if (pairs == 0) {
                return 0;
            }
            for (int size = 1; size <= STATES * MARKS; size++) {
                int bits = (1 << size) - 1;
                for (int tried = 0; tried < ALL_MARKS && bits < ALL_MARKS; tried++) {
                    if (partsAll(bits)) {
                        return bits;
                    }
                    bits = nextOfSize(bits);
                }
            }
            return ALL_MARKS - 1;
        }

        private void gatherPartings() {
            pairs = 0;
            for (int a = 0; a < signs; a++) {
                for (int b = a + 1; b < signs; b++) {
                    int bits = differences(a, b);
                    if (bits != 0) {
                        partings[pairs] = bits;
                        pairs++;
                    }
                }
            }
        }

        /** The next greater number of as many bits, so that the lowest of a size comes first. */
        private static int nextOfSize(int bits) {
            int low = bits & -bits;
            int carried = bits + low;
            return carried | (bits ^ carried) >> 2 + Integer.numberOfTrailingZeros(low);
        }

        private boolean partsAll(int bits) {
            for (int i = 0; i < pairs; i++) {
                if ((partings[i] & bits) == 0) {
                    return false;
                }
            }
            return true;
        }

        int alike(int shape, int place, int turn, int other) {
            int bits = 0;
            for (int sign = 0; sign < signs; sign++) {
                for (int i = 0; i < sizes[sign]; i++) {
                    int state = stateOf(sign, i);
                    if (agrees(state, SHAPE, shape) && agrees(state, PLACE, place)
                            && agrees(state, TURN, turn) && agrees(state, OTHER, other)) {
                        bits |= 1 << sign;
                    }
                }
            }
            return bits;
        }

        private static boolean agrees(int state, int mark, int value) {
            return value == NONE || markOf(state, mark) == value;
        }

        void copyFrom(Book from) {
            System.arraycopy(from.states, 0, states, 0, states.length);
            System.arraycopy(from.sizes, 0, sizes, 0, sizes.length);
            System.arraycopy(from.xs, 0, xs, 0, xs.length);
            System.arraycopy(from.ys, 0, ys, 0, ys.length);
            System.arraycopy(from.weights, 0, weights, 0, weights.length);
            signs = from.signs;
            slidePrice = from.slidePrice;
            signPrice = from.signPrice;
        }
    }

    /** The rules as codes: tests written operands first, acts with the number of their rule. */
    private static final class Rules {
        static final int MOST = 12;
        static final int MOST_FACTS = 40;
        static final int MOST_ACTS = 40;
        static final int MOST_CODES = 400;
        static final int END_SIDE = 0;
        static final int BEGIN_SIDE = 1;
        static final int STATES_OF = 4;
        static final int VALUES_OF_SIDE = 5;
        static final int NUMBERS = 1000;
        static final int DROP = 4;
        static final int LESS = 0;
        static final int MORE = 1;
        static final int SAME = 2;
        static final int NOT = 3;
        static final int AND = 4;
        static final int OR = 5;

        private final int[] codes = new int[MOST_CODES];
        private final int[] codeEnds = new int[MOST];
        private final int[] acts = new int[MOST_ACTS];
        private int codeCount;
        int actCount;
        int held;

        void clear() {
            codeCount = 0;
            actCount = 0;
            held = 0;
        }

        /** A text of 400 bytes has fewer codes than room, for each comes of a token of its own. */
        void addCode(int kind, int left, int right) {
            if (codeCount < MOST_CODES) {
                codes[codeCount] = kind << 20 | left << 10 | right;
                codeCount++;
            }
        }

        void addAct(int side, int what, int value) {
            if (actCount < MOST_ACTS) {
                acts[actCount] = held << 14 | side << 13 | what << 10 | value;
                actCount++;
            }
        }

        void closeRule() {
            if (held < MOST) {
                codeEnds[held] = codeCount;
                held++;
            }
        }

        static int sideOf(int act) {
            return act >> 13 & 1;
        }

        static int whatOf(int act) {
            return act >> 10 & 7;
        }

        static int valueOf(int act, int[] told) {
            return amount(act & 1023, told);
        }

        int act(int i) {
            return acts[i];
        }

        static boolean isFired(int act, int fired) {
            return (fired >> (act >> 14) & 1) == 1;
        }

        int firing(int[] told) {
            int fired = 0;
            int from = 0;
            for (int rule = 0; rule < held; rule++) {
                if (holds(from, codeEnds[rule], told)) {
                    fired |= 1 << rule;
                }
                from = codeEnds[rule];
            }
            return fired;
        }

        /** The stack is the bits of one int; it starts with a 1, which is what no test at all leaves. */
        private boolean holds(int from, int to, int[] told) {
            int stack = 1;
            for (int i = from; i < to; i++) {
                int code = codes[i];
                int top = stack & 1;
                switch (code >> 20) {
                    case NOT:
                        stack ^= 1;
                        break;
                    case AND:
                        stack = stack >> 1 & (top | ~1);
                        break;
                    case OR:
                        stack = stack >> 1 | top;
                        break;
                    default:
                        stack = stack << 1 | (compares(code, told) ? 1 : 0);
                        break;
                }
            }
            return (stack & 1) == 1;
        }

        private static boolean compares(int code, int[] told) {
            int left = amount(code >> 10 & 1023, told);
            int right = amount(code & 1023, told);
            switch (code >> 20) {
                case LESS:
                    return left < right;
                case MORE:
                    return left > right;
                default:
                    return left == right;
            }
        }

        private static int amount(int value, int[] told) {
            int at = value - NUMBERS;
            return at < 0 || at >= told.length ? value : told[at];
        }

        void copyFrom(Rules from) {
            System.arraycopy(from.codes, 0, codes, 0, from.codeCount);
            System.arraycopy(from.codeEnds, 0, codeEnds, 0, from.held);
            System.arraycopy(from.acts, 0, acts, 0, from.actCount);
            codeCount = from.codeCount;
            actCount = from.actCount;
            held = from.held;
        }
    }

    /** What the two watchers told of the frames. */
    private static final class Watch {
        static final int ROOM = 120;

        final int[] trusts = {50, 50};
        private final int[] slots = new int[ROOM];
        private final int[] days = new int[ROOM];
        private final int[] marks = new int[ROOM * MARKS];
        private final int[] newest = new int[WATCHERS * FRAMES];
        int sights;

        void put(int mark, int value) {
            marks[sights * MARKS + mark] = value;
        }

        int tell(int watcher, int frame, int known) {
            slots[sights] = watcher * FRAMES + frame;
            days[sights] = known;
            sights++;
            return sights;
        }

        void gather(int known) {
            Arrays.fill(newest, NONE);
            for (int i = 0; i < sights; i++) {
                if (days[i] <= known) {
                    newest[slots[i]] = i;
                }
            }
        }

        private int seenBy(int watcher, int frame, int mark) {
            int i = newest[watcher * FRAMES + frame];
            return i == NONE ? NONE : marks[i * MARKS + mark];
        }

        int join(int frame, int mark) {
            int first = seenBy(0, frame, mark);
            int second = seenBy(1, frame, mark);
            if (first == NONE) {
                return second;
            }
            return second != NONE && trusts[1] > trusts[0] ? second : first;
        }

        int countClashes(int from, int to) {
            int clashing = 0;
            for (int frame = from; frame <= to; frame++) {
                for (int mark = 0; mark < MARKS; mark++) {
                    int first = seenBy(0, frame, mark);
                    int second = seenBy(1, frame, mark);
                    if (first != NONE && second != NONE && first != second) {
                        clashing++;
                    }
                }
            }
            return clashing;
        }

        void copyFrom(Watch from) {
            System.arraycopy(from.trusts, 0, trusts, 0, WATCHERS);
            System.arraycopy(from.slots, 0, slots, 0, from.sights);
            System.arraycopy(from.days, 0, days, 0, from.sights);
            System.arraycopy(from.marks, 0, marks, 0, from.sights * MARKS);
            sights = from.sights;
        }
    }

    /** The variants of concepts, their use in regions, and what signers used. */
    private static final class Folk {
        private static final int MOST_VARIANTS = 4;
        private static final int ROOM = 60;

        private final int[] variants = new int[CONCEPTS * MOST_VARIANTS];
        private final int[] variantCounts = new int[CONCEPTS];
        private final int[] parts = new int[CONCEPTS * SIGNS * REGIONS];
        private final int[] users = new int[ROOM];
        private final int[] usedSigns = new int[ROOM];
        private final int[] days = new int[ROOM];
        private final int[] totals = new int[REGIONS];
        final int[] priors = {1, 1, 1};
        final long[] odds = new long[REGIONS];
        int told;

        boolean isVariant(int concept, int sign) {
            for (int i = 0; i < variantCounts[concept]; i++) {
                if (variants[concept * MOST_VARIANTS + i] == sign) {
                    return true;
                }
            }
            return false;
        }

        int addVariant(int concept, int sign) {
            if (isVariant(concept, sign)) {
                return TWICE;
            }
            int held = variantCounts[concept];
            if (held >= MOST_VARIANTS) {
                return NO_ROOM;
            }
            variants[concept * MOST_VARIANTS + held] = sign;
            variantCounts[concept] = held + 1;
            return held + 1;
        }

        void setParts(int concept, int sign, int region, int amount) {
            parts[(concept * SIGNS + sign) * REGIONS + region] = amount;
        }

        private int partsOf(int concept, int sign, int region) {
            return parts[(concept * SIGNS + sign) * REGIONS + region];
        }

        int tell(int signer, int concept, int sign, int known) {
            if (told >= ROOM) {
                return NO_ROOM;
            }
            users[told] = signer * CONCEPTS + concept;
            usedSigns[told] = sign;
            days[told] = known;
            told++;
            return told;
        }

        /** The last told counts alone: where it is no variant, no earlier one takes its place. */
        int counted(int signer, int concept, int known) {
            int user = signer * CONCEPTS + concept;
            for (int i = told - 1; i >= 0; i--) {
                if (users[i] == user && days[i] <= known) {
                    return isVariant(concept, usedSigns[i]) ? usedSigns[i] : NONE;
                }
            }
            return NONE;
        }

        /** Odds over one divisor for all regions: each is multiplied by the totals of the others. */
        void weigh(int signer, int known) {
            for (int region = 0; region < REGIONS; region++) {
                odds[region] = priors[region];
            }
            for (int concept = 0; concept < CONCEPTS; concept++) {
                int sign = counted(signer, concept, known);
                if (sign != NONE && isToldEverywhere(concept)) {
                    weighConcept(concept, sign);
                }
            }
        }

        private boolean isToldEverywhere(int concept) {
            boolean everywhere = true;
            for (int region = 0; region < REGIONS; region++) {
                totals[region] = 0;
                for (int i = 0; i < variantCounts[concept]; i++) {
                    totals[region] += partsOf(concept, variants[concept * MOST_VARIANTS + i], region);
                }
                everywhere = everywhere && totals[region] > 0;
            }
            return everywhere;
        }

        private void weighConcept(int concept, int sign) {
            for (int region = 0; region < REGIONS; region++) {
                odds[region] *= partsOf(concept, sign, region);
                for (int other = 0; other < REGIONS; other++) {
                    if (other != region) {
                        odds[region] *= totals[other];
                    }
                }
            }
        }

        long allOdds() {
            long all = 0;
            for (int region = 0; region < REGIONS; region++) {
                all += odds[region];
            }
            return all;
        }

        int likeliest() {
            int likeliest = NONE;
            long most = 0;
            for (int region = 0; region < REGIONS; region++) {
                if (odds[region] > most) {
                    most = odds[region];
                    likeliest = region;
                }
            }
            return likeliest;
        }

        /** Euclid's way; longs need fewer than a hundred steps. */
        static long commonDivisor(long a, long b) {
            long great = a;
            long small = b;
            for (int step = 0; step < 100 && small != 0; step++) {
                long rest = great % small;
                great = small;
                small = rest;
            }
            return great;
        }

        void copyFrom(Folk from) {
            System.arraycopy(from.variants, 0, variants, 0, variants.length);
            System.arraycopy(from.variantCounts, 0, variantCounts, 0, CONCEPTS);
            System.arraycopy(from.parts, 0, parts, 0, parts.length);
            System.arraycopy(from.users, 0, users, 0, from.told);
            System.arraycopy(from.usedSigns, 0, usedSigns, 0, from.told);
            System.arraycopy(from.days, 0, days, 0, from.told);
            System.arraycopy(from.priors, 0, priors, 0, REGIONS);
            told = from.told;
        }
    }

    /** The bytes of a text, and the tokens they fall into. */
    private static final class Tape {
        static final int ROOM = 400;
        private static final int FEED = 20;
        private static final int BLANK = 32;

        /** A token of one byte that is no digit has that byte as its word; all others stand above. */
        static final int FINISH = 300;
        static final int NUMBER = 301;
        static final int LETTERS = 302;
        static final int IF = 303;
        static final int DO = 304;
        static final int OR = 305;
        static final int AND = 306;
        static final int NOT = 307;
        static final int SET = 308;
        static final int DROP = 309;
        static final int END = 310;
        static final int BEGIN = 311;
        static final int SHAPE_WORD = 312;
        static final int STATES_WORD = 316;

        private final int[] bytes = new int[ROOM];
        /** Behind the last token stands the end, at the text's length. */
        final int[] starts = new int[ROOM + 1];
        final int[] words = new int[ROOM + 1];
        int length;

        boolean hasRoom() {
            return length + FEED <= ROOM;
        }

        void append(int four) {
            for (int shift = 24; shift >= 0 && length < ROOM; shift -= 8) {
                bytes[length] = four >> shift & 255;
                length++;
            }
        }

        void split() {
            int tokens = 0;
            for (int i = 0; i < length; i++) {
                int kind = kindOf(bytes[i]);
                boolean goesOn = i > 0 && kind != 0 && kind == kindOf(bytes[i - 1]);
                if (bytes[i] != BLANK && !goesOn) {
                    starts[tokens] = i;
                    tokens++;
                }
            }
            starts[tokens] = length;
            for (int token = 0; token < tokens; token++) {
                words[token] = wordAt(starts[token]);
            }
            words[tokens] = FINISH;
        }

        /** 1 for letters, 2 for digits, 0 for all that stand alone. */
        private static int kindOf(int one) {
            if (one >= 'a' && one <= 'z') {
                return 1;
            }
            return one >= '0' && one <= '9' ? 2 : 0;
        }

        private int reach(int from) {
            int kind = kindOf(bytes[from]);
            int to = from + 1;
            for (int i = to; i < length && kind != 0 && kindOf(bytes[i]) == kind; i++) {
                to++;
            }
            return to;
        }

        private int wordAt(int from) {
            int kind = kindOf(bytes[from]);
            if (kind == 2) {
                return NUMBER;
            }
            int size = reach(from) - from;
            return size == 1 ? bytes[from] : keyword(from, size);
        }

        private int keyword(int from, int size) {
            switch (size) {
                case 2:
                    return spells(from, "if") ? IF : spells(from, "do") ? DO : spells(from, "or") ? OR : LETTERS;
                case 3:
                    return spells(from, "and") ? AND : spells(from, "not") ? NOT
                            : spells(from, "set") ? SET : spells(from, "end") ? END : LETTERS;
                case 4:
                    return spells(from, "drop") ? DROP : spells(from, "turn") ? SHAPE_WORD + TURN : LETTERS;
                case 5:
                    return spells(from, "begin") ? BEGIN : spells(from, "shape") ? SHAPE_WORD + SHAPE
                            : spells(from, "place") ? SHAPE_WORD + PLACE
                            : spells(from, "other") ? SHAPE_WORD + OTHER : LETTERS;
                case 6:
                    return spells(from, "states") ? STATES_WORD : LETTERS;
                default:
                    return LETTERS;
            }
        }

        private boolean spells(int from, String word) {
            for (int i = 0; i < word.length(); i++) {
                if (from + i >= length || bytes[from + i] != word.charAt(i)) {
                    return false;
                }
            }
            return true;
        }

        /** The number of a token of digits; all above 999 are alike, for none of them is ever in range. */
        int number(int token) {
            int value = 0;
            for (int i = starts[token]; i < length && kindOf(bytes[i]) == 2; i++) {
                value = Math.min(Rules.NUMBERS, value * 10 + bytes[i] - '0');
            }
            return value;
        }

        /** The shape that a token of just five digits 0 .. 2 tells, else NONE. */
        int bends(int token) {
            int from = starts[token];
            if (words[token] != NUMBER || reach(from) - from != Book.FINGERS) {
                return NONE;
            }
            int shape = 0;
            for (int i = from; i < from + Book.FINGERS; i++) {
                if (bytes[i] > '2') {
                    return NONE;
                }
                shape = shape * 3 + bytes[i] - '0';
            }
            return shape;
        }
    }

    /** Reads the tape; where a reader answers no, the token it stands at is the fault. */
    private static final class Grammar {
        private static final int MOST_WITHIN = 6;

        final int[] states = new int[STATES];
        final Rules draft = new Rules();
        private final Tape tape;
        int size;
        private int at;
        private int facts;

        Grammar(Tape tape) {
            this.tape = tape;
        }

        int faultPlace() {
            return tape.starts[at];
        }

        private void open() {
            tape.split();
            at = 0;
            facts = 0;
            size = 0;
            draft.clear();
        }

        /** The end is never accepted, so that no reader goes behind it. */
        private boolean accepts(int word) {
            boolean here = tape.words[at] == word && word != Tape.FINISH;
            if (here) {
                at++;
            }
            return here;
        }

        boolean readSign() {
            open();
            int ahead = 0;
            for (int i = 0; i < STATES; i++) {
                int shape = tape.bends(at);
                if (shape == NONE) {
                    return false;
                }
                at++;
                states[size] = Book.withMark(ahead, SHAPE, shape);
                if (!readMarks()) {
                    return false;
                }
                ahead = states[size];
                size++;
                if (!accepts('/')) {
                    return tape.words[at] == Tape.FINISH;
                }
            }
            return false;
        }

        private boolean readMarks() {
            for (int i = 0; i < Tape.ROOM; i++) {
                int mark = accepts('p') ? PLACE : accepts('t') ? TURN : accepts('o') ? OTHER : NONE;
                if (mark == NONE) {
                    return true;
                }
                int value = tape.number(at);
                if (tape.words[at] != Tape.NUMBER || !Book.fits(mark, value)) {
                    return false;
                }
                states[size] = Book.withMark(states[size], mark, value);
                at++;
            }
            return false;
        }

        boolean readRules() {
            open();
            if (tape.words[at] == Tape.FINISH) {
                return true;
            }
            for (int i = 0; i < Rules.MOST; i++) {
                if (accepts(Tape.IF) && !readTest(0)) {
                    return false;
                }
                if (!accepts(Tape.DO) || !readActs()) {
                    return false;
                }
                draft.closeRule();
                if (!accepts(';')) {
                    return tape.words[at] == Tape.FINISH;
                }
            }
            return false;
        }

        private boolean readActs() {
            for (int i = 0; i <= Rules.MOST_ACTS; i++) {
                if (!readAct()) {
                    return false;
                }
                if (!accepts(',')) {
                    return true;
                }
            }
            return false;
        }

        private boolean readTest(int depth) {
            for (int ors = 0; ors < Tape.ROOM; ors++) {
                if (!readFact(depth)) {
                    return false;
                }
                for (int ands = 0; ands < Tape.ROOM && accepts(Tape.AND); ands++) {
                    if (!readFact(depth)) {
                        return false;
                    }
                    draft.addCode(Rules.AND, 0, 0);
                }
                if (ors > 0) {
                    draft.addCode(Rules.OR, 0, 0);
                }
                if (!accepts(Tape.OR)) {
                    return true;
                }
            }
            return false;
        }

        private boolean readFact(int depth) {
            boolean turned = false;
            for (int i = 0; i < Tape.ROOM && accepts(Tape.NOT); i++) {
                turned = !turned;
            }
            if (tape.words[at] != '(') {
                if (!readComparison()) {
                    return false;
                }
            } else {
                if (depth >= MOST_WITHIN) {
                    return false;
                }
                at++;
                if (!readTest(depth + 1) || !accepts(')')) {
                    return false;
                }
            }
            if (turned) {
                draft.addCode(Rules.NOT, 0, 0);
            }
            return true;
        }

        private boolean readComparison() {
            if (facts >= Rules.MOST_FACTS) {
                return false;
            }
            facts++;
            int left = readValue();
            if (left == NONE) {
                return false;
            }
            int kind = accepts('<') ? Rules.LESS : accepts('>') ? Rules.MORE : accepts('=') ? Rules.SAME : NONE;
            if (kind == NONE) {
                return false;
            }
            int right = readValue();
            if (right == NONE) {
                return false;
            }
            draft.addCode(kind, left, right);
            return true;
        }

        private boolean readAct() {
            if (draft.actCount >= Rules.MOST_ACTS) {
                return false;
            }
            boolean sets = accepts(Tape.SET);
            if (!sets && !accepts(Tape.DROP)) {
                return false;
            }
            int side = readSide();
            if (side == NONE) {
                return false;
            }
            if (!sets) {
                draft.addAct(side, Rules.DROP, 0);
                return true;
            }
            int mark = tape.words[at] - Tape.SHAPE_WORD;
            if (!within(mark, MARKS)) {
                return false;
            }
            at++;
            int value = readValue();
            if (value == NONE) {
                return false;
            }
            draft.addAct(side, mark, value);
            return true;
        }

        private int readSide() {
            return accepts(Tape.END) ? Rules.END_SIDE : accepts(Tape.BEGIN) ? Rules.BEGIN_SIDE : NONE;
        }

        /** A number as it is; what a side tells as a code above all numbers. */
        private int readValue() {
            if (tape.words[at] == Tape.NUMBER) {
                int value = tape.number(at);
                if (value >= Rules.NUMBERS) {
                    return NONE;
                }
                at++;
                return value;
            }
            int side = readSide();
            int what = tape.words[at] - Tape.SHAPE_WORD;
            if (side == NONE || !within(what, Rules.VALUES_OF_SIDE)) {
                return NONE;
            }
            at++;
            return Rules.NUMBERS + side * Rules.VALUES_OF_SIDE + what;
        }
    }

    /** Makes the surface of a sign between its neighbours. */
    private static final class Seams {
        private final Book book;
        private final Rules rules;
        private final int[] told = new int[2 * Rules.VALUES_OF_SIDE];
        final int[] states = new int[STATES];
        int size;

        Seams(Book book, Rules rules) {
            this.book = book;
            this.rules = rules;
        }

        void raise(int a, int b, int c) {
            take(b);
            if (a != NONE) {
                change(a, b, Rules.BEGIN_SIDE);
            }
            if (c != NONE) {
                change(b, c, Rules.END_SIDE);
            }
        }

        void take(int sign) {
            load(book.states, sign * STATES, book.sizes[sign]);
        }

        void load(int[] from, int start, int count) {
            System.arraycopy(from, start, states, 0, count);
            size = count;
        }

        /** Lets the seam of two signs act upon that one of them which stands on a side of it. */
        void change(int ahead, int behind, int side) {
            hear(Rules.END_SIDE, book.stateOf(ahead, book.sizes[ahead] - 1), book.sizes[ahead]);
            hear(Rules.BEGIN_SIDE, book.stateOf(behind, 0), book.sizes[behind]);
            int fired = rules.firing(told);
            for (int i = 0; i < rules.actCount; i++) {
                int act = rules.act(i);
                if (Rules.sideOf(act) == side && Rules.isFired(act, fired)) {
                    obey(act, side);
                }
            }
        }

        private void hear(int side, int state, int count) {
            int base = side * Rules.VALUES_OF_SIDE;
            for (int mark = 0; mark < MARKS; mark++) {
                told[base + mark] = Book.markOf(state, mark);
            }
            told[base + Rules.STATES_OF] = count;
        }

        private void obey(int act, int side) {
            int what = Rules.whatOf(act);
            if (what == Rules.DROP) {
                drop(side);
                return;
            }
            int value = Rules.valueOf(act, told);
            int changed = side == Rules.END_SIDE ? size - 1 : 0;
            if (Book.fits(what, value)) {
                states[changed] = Book.withMark(states[changed], what, value);
            }
        }

        private void drop(int side) {
            if (size <= 1) {
                return;
            }
            size--;
            if (side == Rules.BEGIN_SIDE) {
                System.arraycopy(states, 1, states, 0, size);
            }
        }
    }

    /** What it costs to lead each frame of a span to a state: a sum of four looked-up parts. */
    private static final class Frames {
        private static final int WIDTH = 312;
        private static final int PLACES_AT = 256;
        private static final int TURNS_AT = 288;
        private static final int OTHERS_AT = 296;

        private final int[] parts = new int[FRAMES * WIDTH];
        int count;

        void look(House house, int from, int to, int known) {
            Watch watch = house.watch;
            Book book = house.book;
            watch.gather(known);
            count = to - from + 1;
            Arrays.fill(parts, 0);
            for (int i = 0; i < count; i++) {
                int base = i * WIDTH;
                int shape = watch.join(from + i, SHAPE);
                if (shape != NONE) {
                    spreadShapes(base, shape, book.weights[SHAPE]);
                }
                spread(book, PLACE, base + PLACES_AT, watch.join(from + i, PLACE));
                spread(book, TURN, base + TURNS_AT, watch.join(from + i, TURN));
                spread(book, OTHER, base + OTHERS_AT, watch.join(from + i, OTHER));
            }
        }

        private void spread(Book book, int mark, int base, int seen) {
            if (seen == NONE) {
                return;
            }
            for (int value = 0; value < Book.VALUES[mark]; value++) {
                parts[base + value] = book.weights[mark] * book.distanceOf(mark, seen, value);
            }
        }

        /** Finger by finger from the lowest, each time three times as many shapes; bend 0 last, as the others stem from it. */
        private void spreadShapes(int base, int seen, int weight) {
            int filled = 1;
            int rest = seen;
            for (int finger = 0; finger < Book.FINGERS; finger++) {
                int seenBend = rest % 3;
                rest /= 3;
                for (int bend = 2; bend >= 0; bend--) {
                    int apart = weight * Math.abs(bend - seenBend);
                    for (int i = 0; i < filled; i++) {
                        parts[base + bend * filled + i] = parts[base + i] + apart;
                    }
                }
                filled *= 3;
            }
        }

        int costOf(int frame, int state) {
            int base = frame * WIDTH;
            return parts[base + Book.markOf(state, SHAPE)]
                    + parts[base + PLACES_AT + Book.markOf(state, PLACE)]
                    + parts[base + TURNS_AT + Book.markOf(state, TURN)]
                    + parts[base + OTHERS_AT + Book.markOf(state, OTHER)];
        }
    }

    /**
     * All rows of signs at once. A key is a cost and, below it, a number of signs, so that the least key is the
     * least cost of the fewest signs. A pair is a sign with what stands ahead of it, a triple that and what stands
     * behind it. Pairs that leave a sign the same states share the triples of the first such pair, their leader.
     */
    private static final class Rows {
        private static final int KEY_BITS = 5;
        private static final int NEIGHBOURS = SIGNS + 1;
        private static final int PAIRS = NEIGHBOURS * SIGNS;
        private static final int TRIPLES = PAIRS * NEIGHBOURS;

        private final Book book;
        private final Seams seams;
        private final Frames frames;
        private final int[] leaders = new int[PAIRS];
        private final int[] begun = new int[PAIRS * STATES];
        private final int[] begunSizes = new int[PAIRS];
        private final int[] surfaces = new int[TRIPLES * STATES];
        private final int[] sizes = new int[TRIPLES];
        private final int[] going = new int[TRIPLES * STATES];
        private final int[] through = new int[TRIPLES * FRAMES];
        private final int[] onward = new int[PAIRS * FRAMES];
        private final int[] starts = new int[(FRAMES + 1) * FRAMES];
        private final int[] lanes = new int[STATES];
        final int[] row = new int[FRAMES];
        int length;
        private int slideKey;
        private int signKey;
        private int limit;
        private int found;

        Rows(Book book, Seams seams, Frames frames) {
            this.book = book;
            this.seams = seams;
            this.frames = frames;
        }

        private static int pairOf(int ahead, int sign) {
            return (ahead + 1) * SIGNS + sign;
        }

        private int tripleOf(int ahead, int sign, int behind) {
            return leaders[pairOf(ahead, sign)] * NEIGHBOURS + behind + 1;
        }

        void weigh() {
            slideKey = book.slidePrice << KEY_BITS;
            signKey = (book.signPrice << KEY_BITS) + 1;
            for (int sign = 0; sign < book.signs; sign++) {
                for (int ahead = NONE; ahead < book.signs; ahead++) {
                    if (leads(ahead, sign)) {
                        raiseAll(pairOf(ahead, sign), sign);
                    }
                }
            }
            for (int frame = frames.count - 1; frame >= 0; frame--) {
                for (int sign = 0; sign < book.signs; sign++) {
                    weighSign(sign, frame);
                }
            }
        }

        /** Whether no pair so far leaves a sign the states that this one does. */
        private boolean leads(int ahead, int sign) {
            int pair = pairOf(ahead, sign);
            seams.take(sign);
            if (ahead != NONE) {
                seams.change(ahead, sign, Rules.BEGIN_SIDE);
            }
            begunSizes[pair] = seams.size;
            System.arraycopy(seams.states, 0, begun, pair * STATES, seams.size);
            leaders[pair] = leaderOf(ahead, sign);
            return leaders[pair] == pair;
        }

        private int leaderOf(int ahead, int sign) {
            int pair = pairOf(ahead, sign);
            for (int other = NONE; other < ahead; other++) {
                if (isBegunAlike(pairOf(other, sign), pair)) {
                    return pairOf(other, sign);
                }
            }
            return pair;
        }

        private boolean isBegunAlike(int one, int other) {
            if (begunSizes[one] != begunSizes[other]) {
                return false;
            }
            for (int i = 0; i < begunSizes[one]; i++) {
                if (begun[one * STATES + i] != begun[other * STATES + i]) {
                    return false;
                }
            }
            return true;
        }

        private void raiseAll(int pair, int sign) {
            for (int behind = NONE; behind < book.signs; behind++) {
                int triple = pair * NEIGHBOURS + behind + 1;
                seams.load(begun, pair * STATES, begunSizes[pair]);
                if (behind != NONE) {
                    seams.change(sign, behind, Rules.END_SIDE);
                }
                sizes[triple] = seams.size;
                System.arraycopy(seams.states, 0, surfaces, triple * STATES, seams.size);
                blank(going, triple * STATES, STATES);
            }
        }

        /** All ways on from a frame that is led to a state of this sign, in every place it may stand in. */
        private void weighSign(int sign, int frame) {
            for (int behind = NONE; behind < book.signs; behind++) {
                int leaving = behind == NONE ? finishing(frame + 1) : passing(sign, behind, frame + 1);
                for (int ahead = NONE; ahead < book.signs; ahead++) {
                    int pair = pairOf(ahead, sign);
                    if (leaders[pair] == pair) {
                        int triple = pair * NEIGHBOURS + behind + 1;
                        step(triple, frame, leaving);
                        int key = going[triple * STATES];
                        through[triple * FRAMES + frame] = key;
                        int at = pair * FRAMES + frame;
                        onward[at] = behind == NONE ? key : Math.min(onward[at], key);
                    }
                }
            }
        }

        private int finishing(int frame) {
            return frame == frames.count ? 0 : FAR;
        }

        /** The least key from a frame on at which one sign is over and another one comes, after slides or none. */
        private int passing(int sign, int behind, int frame) {
            int base = leaders[pairOf(sign, behind)] * FRAMES;
            int least = FAR;
            int price = signKey;
            for (int i = frame; i < frames.count && i <= frame + MOST_SLIDES; i++) {
                least = Math.min(least, price + onward[base + i]);
                price += slideKey;
            }
            return least;
        }

        private void step(int triple, int frame, int leaving) {
            int base = triple * STATES;
            int last = base + sizes[triple] - 1;
            for (int i = base; i <= last; i++) {
                int next = i == last ? leaving : going[i + 1];
                int key = frames.costOf(frame, surfaces[i]) << KEY_BITS;
                going[i] = Math.min(FAR, key + Math.min(going[i], next));
            }
        }

        int leastKey() {
            int least = FAR;
            for (int sign = 0; sign < book.signs; sign++) {
                least = Math.min(least, signKey + onward[pairOf(NONE, sign) * FRAMES]);
            }
            return least;
        }

        private void start() {
            blank(starts, 0, FRAMES);
            starts[0] = signKey;
        }

        private static void blank(int[] keys, int from, int count) {
            for (int i = from; i < from + count; i++) {
                keys[i] = FAR;
            }
        }

        /** The first row of the least key, sign by sign: the lowest sign from which that key is still reached. */
        void findBest() {
            int least = leastKey();
            start();
            length = 0;
            int ahead = NONE;
            int sign = firstOf(least);
            for (int depth = 0; depth < FRAMES && sign != NONE; depth++) {
                row[depth] = sign;
                length = depth + 1;
                int behind = followerOf(least, depth, ahead, sign);
                if (behind != NONE) {
                    extend(depth, tripleOf(ahead, sign, behind));
                }
                ahead = sign;
                sign = behind;
            }
        }

        private int firstOf(int least) {
            for (int sign = 0; sign < book.signs; sign++) {
                if (signKey + onward[pairOf(NONE, sign) * FRAMES] == least) {
                    return sign;
                }
            }
            return NONE;
        }

        private int followerOf(int least, int depth, int ahead, int sign) {
            for (int behind = NONE; behind < book.signs; behind++) {
                if (leastWith(depth, tripleOf(ahead, sign, behind)) == least) {
                    return behind;
                }
            }
            return NONE;
        }

        private int leastWith(int depth, int triple) {
            int least = FAR;
            for (int frame = depth; frame < frames.count; frame++) {
                least = Math.min(least, starts[depth * FRAMES + frame] + through[triple * FRAMES + frame]);
            }
            return least;
        }

        /** From the keys with which the sign of a depth starts at each frame to those of the sign behind it. */
        private void extend(int depth, int triple) {
            int from = depth * FRAMES;
            int to = from + FRAMES;
            int size = sizes[triple];
            Arrays.fill(lanes, FAR);
            blank(starts, to, FRAMES);
            for (int frame = depth; frame < frames.count; frame++) {
                for (int i = size - 1; i >= 0; i--) {
                    int ahead = i == 0 ? starts[from + frame] : lanes[i - 1];
                    int key = frames.costOf(frame, surfaces[triple * STATES + i]) << KEY_BITS;
                    lanes[i] = Math.min(FAR, key + Math.min(lanes[i], ahead));
                }
                int price = lanes[size - 1] + signKey;
                for (int i = frame + 1; i < frames.count && i <= frame + 1 + MOST_SLIDES; i++) {
                    starts[to + i] = Math.min(starts[to + i], price);
                    price += slideKey;
                }
            }
        }

        int countWithin(int n) {
            limit = ((leastKey() >> KEY_BITS) + n << KEY_BITS) + (1 << KEY_BITS) - 1;
            found = 0;
            start();
            for (int sign = 0; sign < book.signs; sign++) {
                explore(0, NONE, sign);
            }
            return found;
        }

        /** Only goes where a row within the limit lies for sure, so that few steps are in vain. */
        private void explore(int depth, int ahead, int sign) {
            if (depth >= FRAMES) {
                return;
            }
            if (found < MOST_RIVALS && leastWith(depth, tripleOf(ahead, sign, NONE)) <= limit) {
                found++;
            }
            for (int behind = 0; behind < book.signs && found < MOST_RIVALS; behind++) {
                int triple = tripleOf(ahead, sign, behind);
                if (leastWith(depth, triple) <= limit) {
                    extend(depth, triple);
                    explore(depth + 1, sign, behind);
                }
            }
        }
    }

    /** One row of signs laid out as its surfaces, with its cheapest reading. */
    private static final class Line {
        private final int[] states = new int[FRAMES];
        private final int[] places = new int[FRAMES];
        private final int[] numbers = new int[FRAMES];
        private final int[] keys = new int[FRAMES * FRAMES];
        private int size;
        private boolean tooLong;
        final int[] row = new int[FRAMES];
        final int[] ledPlaces = new int[FRAMES];
        final int[] ledStates = new int[FRAMES];
        int signs;
        int frames;

        void lay(Seams seams, int[] from, int count) {
            size = 0;
            tooLong = false;
            signs = count;
            System.arraycopy(from, 0, row, 0, count);
            for (int i = 0; i < count; i++) {
                seams.raise(i == 0 ? NONE : row[i - 1], row[i], i == count - 1 ? NONE : row[i + 1]);
                append(seams, i);
            }
        }

        private void append(Seams seams, int place) {
            for (int i = 0; i < seams.size; i++) {
                if (size >= FRAMES) {
                    tooLong = true;
                    return;
                }
                states[size] = seams.states[i];
                places[size] = place;
                numbers[size] = i;
                size++;
            }
        }

        /** The least cost of a reading, or NONE if the frames are too few for the states. */
        int measure(Frames seen, Book book) {
            frames = seen.count;
            if (tooLong || size > frames) {
                return NONE;
            }
            for (int frame = frames - 1; frame >= 0; frame--) {
                for (int i = 0; i < size; i++) {
                    int rest = Math.min(keyAt(i, frame + 1), leaving(i, frame + 1, book.slidePrice));
                    keys[i * FRAMES + frame] = Math.min(FAR, seen.costOf(frame, states[i]) + rest);
                }
            }
            return keys[0] + signs * book.signPrice;
        }

        private int keyAt(int i, int frame) {
            return frame < frames ? keys[i * FRAMES + frame] : FAR;
        }

        private boolean isLastOfSign(int i) {
            return i == size - 1 || places[i + 1] != places[i];
        }

        /** The least cost from a frame on at which a state is over. */
        private int leaving(int i, int frame, int slidePrice) {
            if (i == size - 1) {
                return frame == frames ? 0 : FAR;
            }
            int slides = isLastOfSign(i) ? MOST_SLIDES : 0;
            int least = FAR;
            for (int slid = 0; slid <= slides; slid++) {
                least = Math.min(least, keyAt(i + 1, frame + slid) + slid * slidePrice);
            }
            return least;
        }

        /** Leads each frame to the least place and state there is among the cheapest readings. */
        void follow(int slidePrice) {
            int i = 0;
            int slides = 0;
            for (int frame = 0; frame < frames; frame++) {
                ledPlaces[frame] = places[i];
                ledStates[frame] = slides > 0 ? NONE : numbers[i];
                if (slides > 1) {
                    slides--;
                } else if (slides == 1) {
                    slides = 0;
                    i++;
                } else if (i < size - 1 && keyAt(i, frame + 1) > leaving(i, frame + 1, slidePrice)) {
                    slides = mostSlides(i, frame + 1, slidePrice);
                    i += slides > 0 ? 0 : 1;
                }
            }
        }

        /** A slide counts behind the sign ahead of it, so as many as cost no more come before the next sign. */
        private int mostSlides(int i, int frame, int slidePrice) {
            int least = leaving(i, frame, slidePrice);
            int slides = isLastOfSign(i) ? MOST_SLIDES : 0;
            for (int slid = slides; slid > 0; slid--) {
                if (keyAt(i + 1, frame + slid) + slid * slidePrice == least) {
                    return slid;
                }
            }
            return 0;
        }
    }
}
