/** One HandTongue whose calls are counted, for the document promises 512 of them and no more. */
final class Hand {
    static final int NONE = HandTongue.NONE;
    static final int LEAST = Integer.MIN_VALUE;
    static final int MOST = Integer.MAX_VALUE;
    private static final int MOST_CALLS = 512;
    private static final int FEED = 20;

    private final HandTongue tongue = new HandTongue();
    private int calls;
    private int laid;

    static Hand with(String... signs) {
        Hand h = new Hand();
        for (String text : signs) {
            h.sign(text);
        }
        return h;
    }

    private HandTongue called() {
        calls++;
        if (calls > MOST_CALLS) {
            throw new IllegalStateException("a test needs more than " + MOST_CALLS + " calls of one object");
        }
        return tongue;
    }

    int callsLeft() {
        return MOST_CALLS - calls;
    }

    /** Feeds a text behind the tape and cuts what the last twenty bytes have too much. */
    void lay(String text) {
        int whole = laid + text.length();
        for (int from = 0; from < text.length(); from += FEED) {
            int[] five = new int[5];
            for (int i = 0; i < FEED && from + i < text.length(); i++) {
                five[i / 4] |= text.charAt(from + i) << 24 - 8 * (i % 4);
            }
            feed(five[0], five[1], five[2], five[3], five[4]);
        }
        if (text.length() % FEED != 0) {
            end(whole);
        }
    }

    int sign(String text) {
        lay(text);
        return sign();
    }

    int rules(String text) {
        lay(text);
        return rules();
    }

    int feed(int a, int b, int c, int d, int e) {
        int answer = called().feed(a, b, c, d, e);
        laid = answer < 0 ? laid : answer;
        return answer;
    }

    int end(int n) {
        int answer = called().end(n);
        laid = answer < 0 ? laid : answer;
        return answer;
    }

    int sign() {
        laid = 0;
        return called().sign();
    }

    int rules() {
        laid = 0;
        return called().rules();
    }

    int fault() {
        return called().fault();
    }

    int place(int place, int x, int y) {
        return called().place(place, x, y);
    }

    int weight(int mark, int weight) {
        return called().weight(mark, weight);
    }

    int prices(int slide, int sign) {
        return called().prices(slide, sign);
    }

    int mark(int sign, int state, int mark) {
        return called().mark(sign, state, mark);
    }

    int surface(int a, int b, int c, int state, int mark) {
        return called().surface(a, b, c, state, mark);
    }

    int distance(int mark, int a, int b) {
        return called().distance(mark, a, b);
    }

    int sight(int watcher, int frame, int shape, int place, int turn, int other, int known) {
        return called().sight(watcher, frame, shape, place, turn, other, known);
    }

    int trust(int watcher, int trust) {
        return called().trust(watcher, trust);
    }

    int joined(int frame, int mark, int known) {
        return called().joined(frame, mark, known);
    }

    int clashes(int from, int to, int known) {
        return called().clashes(from, to, known);
    }

    int read(int from, int to, int known) {
        return called().read(from, to, known);
    }

    int best(int i) {
        return called().best(i);
    }

    int led(int frame, int what) {
        return called().led(frame, what);
    }

    int rivals(int from, int to, int known, int n) {
        return called().rivals(from, to, known, n);
    }

    int cost(int a, int b, int c, int from, int to, int known) {
        return called().cost(a, b, c, from, to, known);
    }

    int near(int a, int b) {
        return called().near(a, b);
    }

    int gap(int a, int b) {
        return called().gap(a, b);
    }

    int nearest(int sign) {
        return called().nearest(sign);
    }

    int parting() {
        return called().parting();
    }

    int like(int shape, int place, int turn, int other) {
        return called().like(shape, place, turn, other);
    }

    int variant(int concept, int sign) {
        return called().variant(concept, sign);
    }

    int use(int concept, int sign, int region, int parts) {
        return called().use(concept, sign, region, parts);
    }

    int prior(int region, int parts) {
        return called().prior(region, parts);
    }

    int used(int signer, int concept, int sign, int known) {
        return called().used(signer, concept, sign, known);
    }

    int counts(int signer, int concept, int known) {
        return called().counts(signer, concept, known);
    }

    long share(int signer, int region, int known, int what) {
        return called().share(signer, region, known, what);
    }

    int region(int signer, int known) {
        return called().region(signer, known);
    }

    int image(int k) {
        return called().image(k);
    }

    int back(int k) {
        return called().back(k);
    }

    int count(int what) {
        return called().count(what);
    }

    int status() {
        return called().status();
    }

    /** A call by its name; a name that is not known ends the test. */
    long call(String name, int... n) {
        switch (name) {
            case "feed":
                return feed(n[0], n[1], n[2], n[3], n[4]);
            case "end":
                return end(n[0]);
            case "sign":
                return sign();
            case "rules":
                return rules();
            case "fault":
                return fault();
            case "place":
                return place(n[0], n[1], n[2]);
            case "weight":
                return weight(n[0], n[1]);
            case "prices":
                return prices(n[0], n[1]);
            case "mark":
                return mark(n[0], n[1], n[2]);
            case "surface":
                return surface(n[0], n[1], n[2], n[3], n[4]);
            case "distance":
                return distance(n[0], n[1], n[2]);
            case "sight":
                return sight(n[0], n[1], n[2], n[3], n[4], n[5], n[6]);
            case "trust":
                return trust(n[0], n[1]);
            case "joined":
                return joined(n[0], n[1], n[2]);
            case "clashes":
                return clashes(n[0], n[1], n[2]);
            case "read":
                return read(n[0], n[1], n[2]);
            case "best":
                return best(n[0]);
            case "led":
                return led(n[0], n[1]);
            case "rivals":
                return rivals(n[0], n[1], n[2], n[3]);
            default:
                return laterCall(name, n);
        }
    }

    private long laterCall(String name, int... n) {
        switch (name) {
            case "cost":
                return cost(n[0], n[1], n[2], n[3], n[4], n[5]);
            case "near":
                return near(n[0], n[1]);
            case "gap":
                return gap(n[0], n[1]);
            case "nearest":
                return nearest(n[0]);
            case "parting":
                return parting();
            case "like":
                return like(n[0], n[1], n[2], n[3]);
            case "variant":
                return variant(n[0], n[1]);
            case "use":
                return use(n[0], n[1], n[2], n[3]);
            case "prior":
                return prior(n[0], n[1]);
            case "used":
                return used(n[0], n[1], n[2], n[3]);
            case "counts":
                return counts(n[0], n[1], n[2]);
            case "share":
                return share(n[0], n[1], n[2], n[3]);
            case "region":
                return region(n[0], n[1]);
            case "image":
                return image(n[0]);
            case "back":
                return back(n[0]);
            case "count":
                return count(n[0]);
            case "status":
                return status();
            default:
                throw new IllegalStateException("no call " + name);
        }
    }
}
