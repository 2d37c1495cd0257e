/** The bounds of FRAMES, SIGHTS, TRUST, READINGS, COSTS, BEST, LED and RIVALS, a sentence of the document after the other. */
public final class ReadingBoundsTest {
    private static final int NONE = Hand.NONE;
    private static final int[] MOST = {242, 19, 7, 9};

    public static void main(String[] args) {
        sights();
        sightsAtMost();
        daysOfSights();
        toldLast();
        trusts();
        joined();
        clashes();
        spans();
        statesAndFrames();
        slides();
        prices();
        costs();
        greatestCost();
        costRefused();
        bestTies();
        surfacesInRows();
        surfacesAlike();
        bestOfCosts();
        ledCosts();
        noReading();
        latest();
        fullBook();
        statesLeft();
        costOfEachValue();
        ledPlaces();
        ledTies();
        rivals();
        rivalsAtMost();
        Due.finish("ReadingBoundsTest");
    }

    private static void seen(Hand h, int frame, int shape) {
        h.sight(0, frame, shape, NONE, NONE, NONE, 0);
    }

    private static void seenAll(Hand h, int... shapes) {
        for (int frame = 0; frame < shapes.length; frame++) {
            if (shapes[frame] != NONE) {
                seen(h, frame, shapes[frame]);
            }
        }
    }

    private static void sights() {
        Due.sentence("FRAMES 0 .. 19, each of two WATCHERS (0, 1).");
        for (int watcher = 0; watcher < 2; watcher++) {
            Hand h = new Hand();
            for (int frame = 0; frame < 20; frame++) {
                Due.due("sight", h.sight(watcher, frame, 200 + frame, frame, frame % 8, frame % 10, 0), frame + 1);
            }
            for (int frame = 0; frame < 20; frame++) {
                Due.due("shape", h.joined(frame, 0, 0), 200 + frame);
                Due.due("place", h.joined(frame, 1, 0), frame);
                Due.due("turn", h.joined(frame, 2, 0), frame % 8);
                Due.due("other", h.joined(frame, 3, 0), frame % 10);
            }
            Due.due("no clash of one watcher", h.clashes(0, 19, 0), 0);
        }
        Due.sentence("a FRAME's MARKS (each NONE, if it was not seen)");
        Hand h = new Hand();
        for (int mark = 0; mark < 4; mark++) {
            for (int value : new int[] {0, MOST[mark], NONE}) {
                int[] told = {NONE, NONE, NONE, NONE};
                told[mark] = value;
                Due.due("told", h.sight(1, mark, told[0], told[1], told[2], told[3], 0), h.count(2));
                for (int other = 0; other < 4; other++) {
                    Due.due("joined", h.joined(mark, other, 0), told[other]);
                }
            }
        }
        Due.sentence("A SIGHT: how many there are. -1; -5.");
        int before = h.count(2);
        int[] good = {1, 19, 242, 19, 7, 9, 999};
        int[] low = {0, 0, -1, -1, -1, -1, 0};
        for (int i = 0; i < 7; i++) {
            for (int bad : new int[] {low[i] - 1, low[i] - 2, good[i] + 1, good[i] + 2, Hand.LEAST, Hand.MOST}) {
                int[] n = good.clone();
                n[i] = bad;
                Due.due("sight", h.call("sight", n), -1);
                Due.due("status", h.status(), -1);
                Due.due("sights stay", h.count(2), before);
            }
        }
        Due.due("nothing of it", h.joined(19, 0, 999), NONE);
        Due.due("the greatest", h.call("sight", good), before + 1);
        Due.due("status of a good one", h.status(), 0);
        Due.due("the least", h.call("sight", low), before + 2);
    }

    private static void sightsAtMost() {
        Due.sentence("A SIGHT, 120 at most");
        Hand h = new Hand();
        for (int i = 1; i <= 120; i++) {
            Due.due("sight " + i, h.sight(i % 2, i % 20, i, NONE, NONE, NONE, i), i);
        }
        Due.due("the 120th", h.joined(0, 0, 120), 120);
        Due.due("not known ahead of its day", h.joined(0, 0, 119), 100);
        for (int i = 0; i < 3; i++) {
            Due.due("the 121st", h.sight(0, 0, 5, NONE, NONE, NONE, 0), -5);
            Due.due("status", h.status(), -5);
            Due.due("sights", h.count(2), 120);
        }
        Due.due("nothing of it", h.joined(0, 0, 999), 120);
        Due.due("a number that can't be", h.sight(2, 0, 5, NONE, NONE, NONE, 0), -1);
        Due.due("status", h.status(), -1);
        Due.due("a number that can't be", h.sight(0, 0, 5, NONE, NONE, NONE, 1000), -1);
        Scene.same("sight refused by -5", Scene::fill, one -> one.sight(0, 0, 1, 1, 1, 1, 0), one -> one.used(0, 0, 0, 0));
    }

    private static void daysOfSights() {
        Due.sentence("known from a DAY on");
        for (int day : new int[] {0, 1, 500, 998, 999}) {
            Hand h = Hand.with("00000", "22222");
            h.sight(0, 4, 242, NONE, NONE, NONE, day);
            h.sight(1, 4, 0, NONE, NONE, NONE, day);
            Due.due("on the day", h.joined(4, 0, day), 242);
            Due.due("later", h.joined(4, 0, 999), 242);
            Due.due("clash on the day", h.clashes(0, 19, day), 1);
            Due.due("cost on the day", h.cost(0, NONE, NONE, 4, 4, day), 11);
            Due.due("best on the day", h.read(4, 4, day) * 10 + h.best(0), 11);
            Due.due("rivals on the day", h.rivals(4, 4, day, 9), 1);
            if (day > 0) {
                Due.due("the day ahead", h.joined(4, 0, day - 1), NONE);
                Due.due("no clash the day ahead", h.clashes(0, 19, day - 1), 0);
                Due.due("cost the day ahead", h.cost(0, NONE, NONE, 4, 4, day - 1), 1);
                Due.due("best the day ahead", h.read(4, 4, day - 1) * 10 + h.best(0), 10);
                Due.due("rivals the day ahead", h.rivals(4, 4, day - 1, 9), 2);
            }
        }
    }

    private static void toldLast() {
        Due.sentence("of those known that told last counts");
        Hand h = new Hand();
        h.sight(0, 4, 1, 1, NONE, NONE, 10);
        h.sight(0, 4, 2, NONE, 2, NONE, 5);
        Due.due("an older day told last", h.joined(4, 0, 10), 2);
        Due.due("all its marks", h.joined(4, 1, 10), NONE);
        Due.due("all its marks", h.joined(4, 2, 10), 2);
        h.sight(0, 4, 3, NONE, NONE, 3, 8);
        Due.due("the latest of day 10", h.joined(4, 0, 10), 3);
        Due.due("of day 8", h.joined(4, 0, 8), 3);
        Due.due("of day 7", h.joined(4, 0, 7), 2);
        Due.due("of day 5", h.joined(4, 0, 5), 2);
        Due.due("of day 4", h.joined(4, 0, 4), NONE);
        h.sight(0, 4, NONE, NONE, NONE, NONE, 9);
        Due.due("one that saw nothing", h.joined(4, 0, 9), NONE);
        Due.due("not yet", h.joined(4, 0, 8), 3);
        h.sight(1, 4, 6, NONE, NONE, NONE, 0);
        Due.due("the other watcher's", h.joined(4, 0, 9), 6);
        Due.due("both", h.joined(4, 0, 8), 3);
        h.sight(0, 5, 7, NONE, NONE, NONE, 0);
        Due.due("another frame's", h.joined(4, 0, 8), 3);
    }

    private static void trusts() {
        Due.sentence("TRUST of WATCHERS 0 .. 100 (50 each at first).");
        Hand h = new Hand();
        for (int watcher = 0; watcher < 2; watcher++) {
            Due.due("50 at first", h.trust(watcher, 100), 50);
            Due.due("100 was it", h.trust(watcher, 0), 100);
            Due.due("0 was it", h.trust(watcher, 7), 0);
            Due.due("status of a trust that was 0", h.status(), 0);
            for (int bad : new int[] {-1, -2, 101, 102, Hand.LEAST, Hand.MOST}) {
                Due.due("trust " + bad, h.trust(watcher, bad), -1);
                Due.due("status", h.status(), -1);
            }
            Due.due("it stays", h.trust(watcher, 50), 7);
        }
        for (int bad : new int[] {-1, 2, 3, Hand.LEAST, Hand.MOST}) {
            Due.due("watcher " + bad, h.trust(bad, 50), -1);
        }
        Due.sentence("if both did, and unlike, it is a CLASH: that of the greater TRUST, of alike ones WATCHER 0's.");
        h.sight(0, 4, 1, NONE, NONE, NONE, 0);
        h.sight(1, 4, 2, NONE, NONE, NONE, 0);
        int[][] pairs = {{0, 0}, {0, 1}, {1, 0}, {50, 50}, {49, 50}, {50, 49}, {99, 100}, {100, 99}, {100, 100}, {0, 100}, {100, 0}};
        for (int[] pair : pairs) {
            h.trust(0, pair[0]);
            h.trust(1, pair[1]);
            Due.due("trusts " + pair[0] + ", " + pair[1], h.joined(4, 0, 0), pair[1] > pair[0] ? 2 : 1);
            Due.due("a clash all the same", h.clashes(4, 4, 0), 1);
        }
    }

    private static void joined() {
        Due.sentence("JOINED MARK of a FRAME as known: what one of them saw");
        for (int mark = 0; mark < 4; mark++) {
            for (int watcher = 0; watcher < 2; watcher++) {
                Hand h = new Hand();
                h.trust(watcher, 0);
                int[] told = {NONE, NONE, NONE, NONE};
                told[mark] = 0;
                h.sight(watcher, 0, told[0], told[1], told[2], told[3], 0);
                h.sight(1 - watcher, 0, NONE, NONE, NONE, NONE, 0);
                Due.due("what one saw, be it 0", h.joined(0, mark, 0), 0);
                Due.due("no clash", h.clashes(0, 0, 0), 0);
            }
        }
        Due.sentence("NONE, if nobody saw it.");
        Hand h = new Hand();
        Due.due("nothing told", h.joined(0, 0, 0), NONE);
        h.sight(0, 3, 0, 0, NONE, NONE, 0);
        h.sight(1, 3, 0, NONE, NONE, 0, 0);
        Due.due("nobody's turn", h.joined(3, 2, 0), NONE);
        Due.due("both, alike", h.joined(3, 0, 0), 0);
        Due.due("the frame ahead", h.joined(2, 0, 0), NONE);
        Due.due("the frame behind", h.joined(4, 0, 0), NONE);
        Due.sentence("JOINED MARK of a FRAME as known on a DAY; NONE.");
        h.sight(0, 0, 5, 5, 5, 5, 0);
        h.sight(0, 19, 6, 6, 6, 6, 0);
        Due.due("frame 0, mark 0, day 0", h.joined(0, 0, 0), 5);
        Due.due("frame 19, mark 3, day 999", h.joined(19, 3, 999), 6);
        int[][] bad = {{-1, 0, 0}, {20, 0, 0}, {0, -1, 0}, {0, 4, 0}, {0, 0, -1}, {0, 0, 1000}, {Hand.LEAST, 0, 0},
            {Hand.MOST, 0, 0}, {0, Hand.LEAST, 0}, {0, Hand.MOST, 0}, {0, 0, Hand.LEAST}, {0, 0, Hand.MOST}};
        for (int[] b : bad) {
            Due.due("joined", h.joined(b[0], b[1], b[2]), NONE);
        }
    }

    private static void clashes() {
        Due.sentence("How many CLASHES there are in FRAMES from .. to as known; NONE.");
        Hand h = new Hand();
        Due.due("none", h.clashes(0, 19, 999), 0);
        for (int frame = 0; frame < 20; frame++) {
            h.sight(0, frame, 0, 0, 0, 0, 0);
            h.sight(1, frame, 1, 1, 1, 1, 0);
        }
        Due.due("all there can be", h.clashes(0, 19, 0), 80);
        for (int frame = 0; frame < 20; frame++) {
            Due.due("up to " + frame, h.clashes(0, frame, 0), 4 * (frame + 1));
            Due.due("from " + frame, h.clashes(frame, 19, 0), 4 * (20 - frame));
            Due.due("one frame", h.clashes(frame, frame, 0), 4);
        }
        h.sight(1, 5, 0, 1, NONE, 0, 0);
        Due.due("alike, unlike, not seen, alike", h.clashes(5, 5, 0), 1);
        int[][] bad = {{-1, 5, 0}, {0, 20, 0}, {6, 5, 0}, {19, 0, 0}, {20, 20, 0}, {-1, -1, 0}, {0, 5, -1}, {0, 5, 1000},
            {Hand.LEAST, 5, 0}, {0, Hand.MOST, 0}, {0, Hand.LEAST, 0}, {Hand.MOST, Hand.MOST, 0}, {0, 5, Hand.LEAST},
            {0, 5, Hand.MOST}, {Hand.LEAST, Hand.MOST, 0}};
        for (int[] b : bad) {
            Due.due("clashes", h.clashes(b[0], b[1], b[2]), NONE);
        }
    }

    private static void spans() {
        Due.sentence("BEST of FRAMES from .. to as known, kept as the latest: its COST. -1; -6 there is no SIGN, or no row has"
                + " a READING (the latest stays).");
        Hand h = Hand.with("00000", "22222");
        seen(h, 0, 242);
        seen(h, 19, 242);
        h.sight(0, 19, 0, NONE, NONE, NONE, 999);
        Due.due("frame 0", h.read(0, 0, 0) * 10 + h.best(0), 11);
        Due.due("frame 19", h.read(19, 19, 0) * 10 + h.best(0), 11);
        Due.due("day 999", h.read(19, 19, 999) * 10 + h.best(0), 10);
        Due.due("day 998", h.read(19, 19, 998) * 10 + h.best(0), 11);
        Due.due("all frames", h.read(0, 19, 0) * 10 + h.best(0), 11);
        Due.due("rivals of frame 0", h.rivals(0, 0, 0, 9), 1);
        Due.due("rivals of frame 19", h.rivals(19, 19, 999, 9), 1);
        Due.due("cost of frame 0", h.cost(1, NONE, NONE, 0, 0, 0), 1);
        Due.due("cost of frame 19", h.cost(1, NONE, NONE, 19, 19, 999), 11);
        Due.due("cost of all", h.cost(1, NONE, NONE, 0, 19, 999), 11);
        int[][] bad = {{-1, 5, 0}, {0, 20, 0}, {6, 5, 0}, {19, 0, 0}, {20, 20, 0}, {-1, -1, 0}, {0, 5, -1}, {0, 5, 1000},
            {Hand.LEAST, 5, 0}, {0, Hand.MOST, 0}, {0, Hand.LEAST, 0}, {Hand.MOST, Hand.MOST, 0}, {0, 5, Hand.LEAST},
            {0, 5, Hand.MOST}, {Hand.LEAST, Hand.MOST, 0}};
        h.read(19, 19, 0);
        for (int[] b : bad) {
            Due.due("read", h.read(b[0], b[1], b[2]), -1);
            Due.due("status", h.status(), -1);
            Due.due("the latest stays", h.best(0) * 10 + h.led(19, 0), 10);
            Due.due("rivals", h.rivals(b[0], b[1], b[2], 0), NONE);
            Due.due("cost", h.cost(0, NONE, NONE, b[0], b[1], b[2]), -1);
            Due.due("status", h.status(), -1);
            Due.due("cost of no sign", h.cost(7, NONE, NONE, b[0], b[1], b[2]), -1);
        }
        Hand empty = new Hand();
        Due.due("a number ahead of no sign", empty.read(0, 20, 0), -1);
        Due.due("no sign", empty.read(0, 19, 0), -6);
    }

    private static void statesAndFrames() {
        Due.sentence("with each FRAME led to a STATE of the SURFACE of one of them (as they stand in the row), in order,"
                + " each STATE having one at least");
        for (int states = 1; states <= 4; states++) {
            Hand h = Hand.with("00000" + "/00000".repeat(states - 1));
            for (int frames = 1; frames <= 6; frames++) {
                boolean enough = frames >= states;
                Due.due("read", h.read(3, 2 + frames, 0), enough ? 1 : -6);
                Due.due("status", h.status(), enough ? 0 : -6);
                Due.due("cost", h.cost(0, NONE, NONE, 3, 2 + frames, 0), enough ? 1 : -6);
                Due.due("status", h.status(), enough ? 0 : -6);
                Due.due("rivals", h.rivals(3, 2 + frames, 0, 0), enough ? 1 : NONE);
            }
        }
        Hand h = Hand.with("00000/00000/00000/00000");
        Due.due("12 states in 12 frames", h.cost(0, 0, 0, 0, 11, 0), 3);
        Due.due("12 states in 11 frames", h.cost(0, 0, 0, 0, 10, 0), -6);
        Due.due("8 states in 8 frames", h.cost(0, 0, NONE, 0, 7, 0), 2);
        Due.due("8 states in 7 frames", h.cost(0, 0, NONE, 0, 6, 0), -6);
        h.rules("do drop end,drop end,drop end");
        Due.due("dropped states need no frame", h.cost(0, 0, NONE, 0, 4, 0), 2);
        Due.due("one too few", h.cost(0, 0, NONE, 0, 3, 0), -6);
        h.prices(0, 0);
        Due.due("rows of 4, of 1 and 4, of 1, 1 and 4 in 6 frames", h.rivals(0, 5, 0, 0), 3);
        h = Hand.with("00000/11111/22222");
        seenAll(h, 0, 121, 242, 242);
        Due.due("in order", h.cost(0, NONE, NONE, 0, 2, 0), 1);
        seen(h, 0, 242);
        seen(h, 2, 0);
        Due.due("not in another order", h.cost(0, NONE, NONE, 0, 2, 0), 21);
        h = Hand.with("00000", "22222");
        for (int frame = 0; frame < 20; frame++) {
            seen(h, frame, frame % 2 * 242);
        }
        Due.due("20 signs in 20 frames", h.read(0, 19, 0), 20);
        Due.due("20 signs", h.best(-1), 20);
        for (int i = 0; i < 20; i++) {
            Due.due("sign " + i, h.best(i), i % 2);
            Due.due("led " + i, h.led(i, 0) * 10 + h.led(i, 1), 10 * i);
        }
        Due.due("no 21st", h.best(20), NONE);
        h.prices(5, 1000);
        h.weight(0, 0);
        Due.due("one dear sign", h.read(0, 19, 0) * 10 + h.best(-1), 10001);
    }

    private static void slides() {
        Due.sentence("but for 0 .. 3 SLIDES between two SIGNS.");
        for (int between = 0; between <= 5; between++) {
            Hand h = Hand.with("00000", "22222");
            h.weight(0, 20);
            h.prices(7, 1);
            seen(h, 0, 0);
            for (int i = 1; i <= between; i++) {
                seen(h, i, 121);
            }
            seen(h, between + 1, 242);
            int slides = Math.min(3, between);
            int due = 2 + 7 * slides + 100 * (between - slides);
            Due.due(between + " frames between", h.cost(0, 1, NONE, 0, between + 1, 0), due);
            if (between < 5) {
                Due.due("read", h.read(0, between + 1, 0), due);
                Due.due("slides led", slidesLed(h, between + 2), slides);
            } else {
                Due.due("a third sign for one slide more", h.read(0, 6, 0), 3 + 100 + 7 * 4);
                Due.due("slides led", slidesLed(h, 7), 4);
            }
        }
        Hand h = Hand.with("00000", "22222", "11111/11111");
        h.weight(0, 20);
        h.prices(0, 0);
        seenAll(h, 121, 0, 121, 121, 242, 121);
        Due.due("none ahead of the first, none behind the last", h.cost(0, 1, NONE, 0, 5, 0), 200);
        seenAll(h, 121, 242, 121);
        Due.due("none between states of one sign", h.cost(2, NONE, NONE, 0, 2, 0), 100);
        h = Hand.with("00000", "22222");
        h.weight(0, 20);
        h.prices(1, 0);
        seenAll(h, 0, 121, 121, 121, 242, 121, 121, 121, 0);
        Due.due("three between each two", h.cost(0, 1, 0, 0, 8, 0), 6);
        seenAll(h, 0, 121, 121, 121, 121, 242, 121, 121, 0);
        Due.due("not four between two, for two between others", h.cost(0, 1, 0, 0, 8, 0), 100 + 5);
        Due.due("none is needed", h.cost(0, 1, NONE, 4, 5, 0), 100);
    }

    private static int slidesLed(Hand h, int frames) {
        int led = 0;
        for (int frame = 0; frame < frames; frame++) {
            led += h.led(frame, 1) == NONE ? 1 : 0;
        }
        return led;
    }

    private static void prices() {
        Due.sentence("for each SLIDE the SLIDE's price (0 .. 1000; 5 at first); for each SIGN the SIGN's price"
                + " (0 .. 1000; 1 at first).");
        Hand h = Hand.with("00000", "22222");
        h.weight(0, 20);
        seenAll(h, 0, 121, 242);
        Due.due("5 and 1 at first", h.cost(0, 1, NONE, 0, 2, 0), 2 + 5);
        int[] some = {0, 1, 5, 99, 100, 101, 999, 1000};
        for (int slide : some) {
            for (int sign : some) {
                Due.due("prices", h.prices(slide, sign), 0);
                Due.due("status", h.status(), 0);
                Due.due("cost", h.cost(0, 1, NONE, 0, 2, 0), 2 * sign + Math.min(100, slide));
            }
        }
        h.prices(8, 3);
        int[][] bad = {{-1, 1}, {1001, 1}, {1, -1}, {1, 1001}, {-1, 1001}, {Hand.LEAST, 1}, {Hand.MOST, 1}, {1, Hand.LEAST},
            {1, Hand.MOST}};
        for (int[] b : bad) {
            Due.due("prices", h.prices(b[0], b[1]), -1);
            Due.due("status", h.status(), -1);
            Due.due("they stay", h.cost(0, 1, NONE, 0, 2, 0), 2 * 3 + 8);
        }
    }

    private static void costs() {
        Due.sentence("COST: for each FRAME led to a STATE the sum over MARKS that are JOINED of WEIGHT times DISTANCE");
        Hand h = Hand.with("22222p1t4o1");
        h.place(1, 20, 20);
        h.prices(1000, 1);
        int[] apart = {10, 40, 4, 1};
        for (int mark = 0; mark < 4; mark++) {
            int[] told = {NONE, NONE, NONE, NONE};
            told[mark] = 0;
            h.sight(0, mark, told[0], told[1], told[2], told[3], 0);
        }
        Due.due("nothing seen", h.cost(0, NONE, NONE, 4, 4, 0), 1);
        for (int weight : new int[] {1, 0, 2, 20}) {
            for (int mark = 0; mark < 4; mark++) {
                h.weight(mark, weight);
                Due.due("one mark", h.cost(0, NONE, NONE, mark, mark, 0), 1 + weight * apart[mark]);
            }
            Due.due("the sum", h.cost(0, NONE, NONE, 0, 4, 0), 1 + 55 * weight);
            Due.due("read", h.read(0, 4, 0), 1 + 55 * weight);
        }
        h.trust(1, 51);
        h.sight(1, 0, 242, NONE, NONE, NONE, 1);
        Due.due("of a clash that of the greater trust", h.cost(0, NONE, NONE, 0, 0, 1), 1);
        h.trust(0, 51);
        Due.due("of alike ones watcher 0's", h.cost(0, NONE, NONE, 0, 0, 1), 201);
    }

    private static void greatestCost() {
        Due.sentence("A row's COST is that of its cheapest READING.");
        Hand h = Hand.with("22222p1t4o1", "22222p1t4o1/22222p1t4o1");
        h.place(1, 20, 20);
        for (int mark = 0; mark < 4; mark++) {
            h.weight(mark, 20);
        }
        for (int frame = 0; frame < 20; frame++) {
            h.sight(0, frame, 0, 0, 0, 0, 0);
        }
        h.prices(1000, 1000);
        Due.due("the greatest of one sign", h.cost(0, NONE, NONE, 0, 19, 0), 1000 + 20 * 1100);
        Due.due("two signs with slides", h.cost(0, 0, NONE, 0, 19, 0), 2000 + 17 * 1100 + 3 * 1000);
        Due.due("three signs with slides", h.cost(1, 0, 1, 0, 19, 0), 3000 + 14 * 1100 + 6 * 1000);
        Due.due("the least of them", h.read(0, 19, 0), 1000 + 22000);
        Due.due("one sign", h.best(-1), 1);
        Due.due("within 200", h.rivals(0, 19, 0, 200), 2);
        h.prices(0, 0);
        Due.due("free slides", h.read(0, 19, 0), 6 * 1100);
        Due.due("six signs and 14 slides in 20 frames", h.best(-1), 6);
    }

    private static void costRefused() {
        Due.sentence("COST of a row of three SIGNS (the second, third NONE: not so many; behind one no more are looked at)"
                + " for FRAMES from .. to as known. -1; -2; -6 it has no READING.");
        Hand h = Hand.with("00000", "00000/00000");
        Due.due("one", h.cost(0, NONE, NONE, 0, 5, 0), 1);
        Due.due("two", h.cost(0, 1, NONE, 0, 5, 0), 2);
        Due.due("three", h.cost(0, 1, 0, 0, 5, 0), 3);
        for (int any : new int[] {-2, 0, 1, 2, 10, Hand.LEAST, Hand.MOST}) {
            Due.due("a third behind no second: " + any, h.cost(0, NONE, any, 0, 5, 0), 1);
            Due.due("status", h.status(), 0);
        }
        for (int bad : new int[] {-2, -3, 2, 3, 9, 10, Hand.LEAST, Hand.MOST}) {
            Due.due("first " + bad, h.cost(bad, NONE, NONE, 0, 5, 0), -2);
            Due.due("status", h.status(), -2);
            Due.due("second " + bad, h.cost(0, bad, NONE, 0, 5, 0), -2);
            Due.due("third " + bad, h.cost(0, 0, bad, 0, 5, 0), -2);
            Due.due("a number ahead of it", h.cost(bad, bad, bad, 0, 20, 0), -1);
            Due.due("ahead of no reading", h.cost(1, bad, NONE, 0, 0, 0), -2);
        }
        Due.due("first NONE", h.cost(NONE, NONE, NONE, 0, 5, 0), -2);
        Due.due("first NONE ahead of others", h.cost(NONE, 0, 0, 0, 5, 0), -2);
        Due.due("no reading", h.cost(1, NONE, NONE, 0, 0, 0), -6);
        Due.due("status", h.status(), -6);
        Due.due("of an empty book", new Hand().cost(0, NONE, NONE, 0, 0, 0), -2);
        h.read(0, 0, 0);
        h.cost(0, 0, 0, 3, 9, 0);
        Due.due("cost leaves the latest", h.best(-1) * 100 + h.led(0, 0), 100);
        Due.due("it has that frame alone", h.led(3, 0), NONE);
    }

    private static void bestTies() {
        Due.sentence("BEST: the row of least COST; of alike ones that of the fewest SIGNS, then the first as rows.");
        Hand h = Hand.with("00000", "00000", "00000");
        h.prices(0, 0);
        Due.due("all alike", h.read(0, 9, 0), 0);
        Due.due("the fewest", h.best(-1), 1);
        Due.due("the first", h.best(0), 0);
        h = Hand.with("00001", "22222", "00000", "00000", "22222");
        seenAll(h, 0, 242);
        Due.due("two signs", h.read(0, 1, 0), 2);
        Due.due("the first sign of that cost", h.best(0), 2);
        Due.due("the first behind it", h.best(1), 1);
        h.prices(5, 9);
        Due.due("dearer by 1 than two", h.read(0, 1, 0), 18);
        h.prices(5, 10);
        Due.due("alike cost of one and two", h.read(0, 1, 0), 20);
        Due.due("one sign", h.best(-1) * 10 + h.best(0), 10);
        h = Hand.with("00000", "22222");
        h.prices(5, 10);
        seenAll(h, 0, 242);
        Due.due("alike cost", h.read(0, 1, 0), 20);
        Due.due("the fewest of alike cost, the first", h.best(-1) * 10 + h.best(0), 10);
        h.prices(5, 9);
        Due.due("less", h.read(0, 1, 0), 18);
        Due.due("more signs for less", h.best(-1), 2);
        h.prices(5, 11);
        Due.due("more", h.read(0, 1, 0), 21);
        Due.due("fewer signs for less", h.best(-1), 1);
        h = Hand.with("00000", "22222");
        h.prices(5, 0);
        seenAll(h, NONE, 242);
        Due.due("1 and 0, 1 of alike cost", h.read(0, 1, 0), 0);
        Due.due("the fewest ahead of the first", h.best(-1) * 10 + h.best(0), 11);
        h = Hand.with("00000/11111", "00000", "11111/22222", "22222");
        seenAll(h, 0, 121, 242);
        Due.due("0 and 3 or 1 and 2", h.read(0, 2, 0), 2);
        Due.due("the first as rows", h.best(0) * 10 + h.best(1), 3);
        h = Hand.with("22222", "11111/22222", "00000", "00000/11111");
        seenAll(h, 0, 121, 242);
        Due.due("2 and 1 or 3 and 0", h.read(0, 2, 0), 2);
        Due.due("the first sign ahead of the second", h.best(0) * 10 + h.best(1), 21);
    }

    private static void surfacesInRows() {
        Due.sentence("led to a STATE of the SURFACE of one of them (as they stand in the row)");
        Hand h = Hand.with("00000p1", "00000p2", "00000p3");
        h.rules("if begin place=3 do set end shape 242;if end place=3 do set begin shape 121");
        int[][] costs = {{0, NONE, NONE, 0}, {0, 1, NONE, 0}, {0, 2, NONE, 10}, {2, 0, NONE, 5}, {2, 2, NONE, 15}, {0, 0, 2, 10},
            {0, 2, 0, 15}, {2, 0, 0, 5}, {2, 0, 2, 10}, {2, 1, 0, 5}, {0, 1, 2, 10}, {2, 2, 2, 25}};
        for (int frame = 0; frame < 3; frame++) {
            seen(h, frame, 0);
        }
        for (int[] row : costs) {
            int signs = row[1] == NONE ? 1 : row[2] == NONE ? 2 : 3;
            int from = 3 - signs;
            h.prices(1000, 0);
            Due.due("row " + row[0] + ", " + row[1] + ", " + row[2], h.cost(row[0], row[1], row[2], from, 2, 0), row[3]);
        }
        h.prices(5, 1);
        seenAll(h, 242, 0, 121);
        Due.due("2 ahead and 2 behind", h.cost(0, 2, 0, 0, 2, 0), 3);
        Due.due("that is the best", h.read(0, 2, 0), 3);
        Due.due("the first of such rows", h.best(0) * 100 + h.best(1) * 10 + h.best(2), 20);
        Due.due("rivals of no more: 0 or 1 ahead, 0 or 1 behind", h.rivals(0, 2, 0, 0), 4);
        h = Hand.with("00000/00001", "00000/00010", "00000/00100");
        h.rules("if begin states=2 do drop end,set begin place 4");
        Due.due("a neighbour drops", h.read(0, 2, 0), 1);
        Due.due("two signs in three frames", h.cost(0, 1, NONE, 0, 2, 0), 2);
        Due.due("three in four", h.cost(0, 1, 2, 0, 3, 0), 3);
        Due.due("not three in three", h.cost(0, 1, 2, 0, 2, 0), -6);
    }

    /** A surface may be alike another sign's states; each stands for its own sign all the same. */
    private static void surfacesAlike() {
        Due.sentence("how many rows have a COST of no more than that and n");
        for (int turned = 0; turned < 2; turned++) {
            Hand h = Hand.with("00000p" + (1 + turned), "00000p" + (2 - turned), "22222p3");
            h.place(1, 9, 9);
            h.place(2, 0, 3);
            h.rules("if end shape=242 and begin place=2 do set begin place 1");
            h.sight(0, 0, 242, 3, NONE, NONE, 0);
            h.sight(0, 1, 0, 1, NONE, NONE, 0);
            Due.due("the least", h.read(0, 1, 0), 2);
            Due.due("the first of two rows", h.best(0) * 10 + h.best(1), 20);
            Due.due("both rows", h.rivals(0, 1, 0, 0), 2);
            Due.due("cost of the one", h.cost(2, 0, NONE, 0, 1, 0), 2);
            Due.due("cost of the other", h.cost(2, 1, NONE, 0, 1, 0), 2);
        }
    }

    private static Hand seams(String rules, int... shapes) {
        Hand h = Hand.with("00000p1/00012/22222", "11111p2/00000/12120t3", "22222/21000p1o2");
        h.rules(rules);
        h.place(1, 3, 4);
        h.place(2, 0, 6);
        h.weight(0, 2);
        h.weight(2, 3);
        for (int frame = 0; frame < shapes.length; frame++) {
            h.sight(frame % 2, frame, shapes[frame], frame % 3, NONE, frame % 4 == 0 ? 2 : NONE, 0);
        }
        return h;
    }

    private static final String[] DROPS = {"do drop end", "do drop begin", "if end place=2 do drop begin",
        "if begin place=2 do drop end;if end place=2 do drop begin", "if end states=4 do drop begin,set begin turn end place",
        "if begin other=1 do drop end,set end shape begin shape;if end turn>begin turn do set begin place 3,drop begin"};
    private static final String[] RULES = {"", "do set end shape begin shape", "do set begin shape end shape",
        "if begin place=2 do set end turn 3,set begin shape 0", "if end place=1 do set begin other 2,set end shape 8",
        "if end states=2 do set end place 2,set begin place 1;if begin states=2 do set end shape 242"};

    /** Signs of two or three states: in seven frames no row has more than three signs, so each row's cost can be asked for. */
    private static void bestOfCosts() {
        Due.sentence("BEST: the row of least COST; of alike ones that of the fewest SIGNS, then the first as rows. RIVALS within n:"
                + " how many rows have a COST of no more than that and n (1000 at most).");
        int[] shapes = {0, 5, 242, 121, 3, 242, 189};
        for (String rules : RULES) {
            for (int to = 1; to < 7; to++) {
                bestOfCosts(seams(rules, shapes), to, "up to " + to + " by " + rules);
            }
        }
        for (String rules : DROPS) {
            for (int to = 0; to < 9; to++) {
                if (to < 3) {
                    bestOfCosts(seams(rules, shapes), to, "up to " + to + " by " + rules);
                }
                bestOfCosts(longSigns(rules), to, "long signs up to " + to + " by " + rules);
            }
        }
    }

    /** Signs of four states, of which neighbours take one at each end at most, so that four of them need ten frames. */
    private static Hand longSigns(String rules) {
        Hand h = Hand.with("00000p1/00012/22222t2/11111o1", "11111p2t3/00000/12120/00001t1", "22222o1/21000p1o2/00000/00000t5");
        h.rules(rules);
        h.place(1, 1, 0);
        h.place(2, 0, 3);
        h.place(3, 2, 2);
        int[] shapes = {5, 242, 121, 0, 3, 189, 200, 0, 1};
        for (int frame = 0; frame < 9; frame++) {
            h.sight(0, frame, shapes[frame], frame % 4, frame % 3, frame % 2, 0);
        }
        return h;
    }

    private static void bestOfCosts(Hand h, int to, String what) {
        int least = Hand.MOST;
        int[] best = {NONE, NONE, NONE};
        int[] rows = new int[39];
        for (int i = 0; i < 39; i++) {
            int[] row = i < 3 ? new int[] {i, NONE, NONE} : i < 12 ? new int[] {(i - 3) / 3, i % 3, NONE}
                    : new int[] {(i - 12) / 9, (i - 12) / 3 % 3, i % 3};
            int cost = h.cost(row[0], row[1], row[2], 0, to, 0);
            rows[i] = cost < 0 ? Hand.MOST : cost;
            best = rows[i] < least ? row : best;
            least = Math.min(least, rows[i]);
        }
        boolean any = least < Hand.MOST;
        Due.due("least " + what, h.read(0, to, 0), any ? least : -6);
        for (int i = 0; i < 3; i++) {
            Due.due("sign " + i + " " + what, h.best(i), best[i]);
        }
        for (int n : new int[] {0, 1, 5, 20, 60, 199, 200}) {
            int within = 0;
            for (int cost : rows) {
                within += any && cost <= least + n ? 1 : 0;
            }
            Due.due("rivals within " + n + " " + what, h.rivals(0, to, 0, n), any ? within : NONE);
        }
    }

    /** What the led states cost, asked for mark by mark, is the cost of the row. */
    private static void ledCosts() {
        Due.sentence("LED: for a FRAME the place in the BEST row, the STATE of the SURFACE: of its cheapest READINGS");
        int[] shapes = {0, 5, 242, 121, 3, 242, 189, 0, 0, 17, 242, 240, 121, 120, 119, 0, 60, 80, 242, 121};
        for (String rules : RULES) {
            for (int slide : new int[] {0, 4, 1000}) {
                Hand h = seams(rules, shapes);
                h.prices(slide, 3);
                int least = h.read(0, 19, 0);
                Led led = new Led(h);
                int sum = 3 * led.row.length;
                for (int frame = 0; frame < 20; frame++) {
                    sum += led.states[frame] == NONE ? slide : led.cost(frame);
                    Due.due("a step that can be, to frame " + frame, led.isStep(frame) ? 1 : 0, 1);
                }
                Due.due("cost of the led states by " + rules, sum, least);
                Due.due("the last sign is reached", led.places[19], led.row.length - 1);
                Due.due("its last state too", led.states[19], led.lastState(led.row.length - 1));
            }
        }
    }

    /** The latest best of all frames, as it is led. */
    private static final class Led {
        private static final int[] WEIGHTS = {2, 1, 3, 1};
        final int[] places = new int[20];
        final int[] states = new int[20];
        final int[] row;
        private final Hand h;

        Led(Hand h) {
            this.h = h;
            row = new int[Math.max(1, h.best(-1))];
            for (int i = 0; i < row.length; i++) {
                row[i] = h.best(i);
            }
            for (int frame = 0; frame < 20; frame++) {
                places[frame] = h.led(frame, 0);
                states[frame] = h.led(frame, 1);
            }
        }

        private int ofSurface(int place, int state, int mark) {
            int ahead = place == 0 ? NONE : row[place - 1];
            int behind = place == row.length - 1 ? NONE : row[place + 1];
            return h.surface(ahead, row[place], behind, state, mark);
        }

        int lastState(int place) {
            return ofSurface(place, -1, 0) - 1;
        }

        int cost(int frame) {
            int sum = 0;
            for (int mark = 0; mark < 4; mark++) {
                int seen = h.joined(frame, mark, 0);
                sum += seen == NONE ? 0
                        : WEIGHTS[mark] * h.distance(mark, seen, ofSurface(places[frame], states[frame], mark));
            }
            return sum;
        }

        /** From the frame ahead: on in a sign, from its last state to a slide or to the next sign's first state. */
        boolean isStep(int frame) {
            if (frame == 0) {
                return places[0] == 0 && states[0] == 0;
            }
            int ahead = states[frame - 1];
            boolean over = ahead == NONE || ahead == lastState(places[frame - 1]);
            if (places[frame] != places[frame - 1]) {
                return places[frame] == places[frame - 1] + 1 && states[frame] == 0 && over;
            }
            if (states[frame] == NONE) {
                return over && !(frame > 3 && ahead == NONE && states[frame - 2] == NONE && states[frame - 3] == NONE);
            }
            return ahead != NONE && (states[frame] == ahead || states[frame] == ahead + 1);
        }
    }

    private static void noReading() {
        Due.sentence("-6 there is no SIGN, or no row has a READING (the latest stays).");
        Hand h = new Hand();
        Due.due("no sign", h.read(0, 19, 999), -6);
        Due.due("status", h.status(), -6);
        Due.due("no latest", h.best(-1), NONE);
        Due.due("no led", h.led(0, 0), NONE);
        h.sign("00000/00000");
        Due.due("one frame", h.read(7, 7, 0), -6);
        Due.due("still none", h.best(-1), NONE);
        Due.due("two frames", h.read(7, 8, 0), 1);
        Due.due("one frame again", h.read(0, 0, 0), -6);
        Due.due("the latest stays", h.best(-1), 1);
        Due.due("its frames", h.led(7, 1) * 10 + h.led(8, 1), 1);
        Due.due("not the other's", h.led(0, 0), NONE);
        h.rules("do drop begin");
        Due.due("no neighbour drops", h.read(0, 0, 0), -6);
        Scene.same("read refused by -6", one -> {
            one.sign("00000/11111/22222");
            one.sight(0, 3, 121, 1, 1, 1, 0);
            one.read(2, 5, 0);
        }, one -> one.read(0, 1, 0), one -> one.cost(0, NONE, NONE, 0, 1, 0));
    }

    private static void latest() {
        Due.sentence("The i-th SIGN of the latest BEST; how many (i -1). NONE.");
        Hand h = Hand.with("00000", "22222");
        for (int bad : new int[] {-2, -1, 0, 1, 19, 20, Hand.LEAST, Hand.MOST}) {
            Due.due("best(" + bad + ") ahead of any", h.best(bad), NONE);
            Due.due("led(" + bad + ", 0) ahead of any", h.led(bad, 0), NONE);
        }
        seenAll(h, 0, 242, 0);
        h.read(0, 2, 0);
        Due.due("how many", h.best(-1), 3);
        Due.due("row", h.best(0) * 100 + h.best(1) * 10 + h.best(2), 10);
        for (int bad : new int[] {-2, -3, 3, 4, 19, 20, 1 << 16, Hand.LEAST, Hand.LEAST + 2, Hand.MOST}) {
            Due.due("best(" + bad + ")", h.best(bad), NONE);
        }
        h.read(1, 1, 0);
        Due.due("how many now", h.best(-1) * 10 + h.best(0), 11);
        Due.due("no second", h.best(1), NONE);
        h.sight(0, 1, 0, NONE, NONE, NONE, 0);
        h.weight(0, 0);
        h.rules("do drop end");
        h.sign("11111");
        Due.due("kept as it was read", h.best(0), 1);
        h.rivals(0, 2, 0, 5);
        Due.due("rivals leave it", h.best(-1), 1);
    }

    /** Ten signs of four states in twenty frames: the greatest tables there are. */
    private static void fullBook() {
        Due.sentence("A SIGN has 1 .. 4 STATES; SIGNS 0 .. 9 (10 at most).");
        Hand h = new Hand();
        for (int i = 0; i < 10; i++) {
            h.sign("00000p" + i + "/11111/22222/00012o" + i);
        }
        for (int frame = 0; frame < 20; frame++) {
            h.sight(0, frame, new int[] {0, 121, 242, 5}[frame % 4], NONE, NONE, frame % 4 == 3 ? 9 - frame / 4 : NONE, 0);
        }
        Due.due("the least", h.read(0, 19, 0), 5);
        Due.due("five signs", h.best(-1), 5);
        for (int i = 0; i < 5; i++) {
            Due.due("sign " + i, h.best(i), 9 - i);
        }
        for (int frame = 0; frame < 20; frame++) {
            Due.due("place of " + frame, h.led(frame, 0), frame / 4);
            Due.due("state of " + frame, h.led(frame, 1), frame % 4);
        }
        Due.due("itself alone", h.rivals(0, 19, 0, 0), 1);
        Due.due("and those that have one other sign", h.rivals(0, 19, 0, 1), 1 + 5 * 9);
        Due.due("and those that have two", h.rivals(0, 19, 0, 2), 1 + 5 * 9 + 10 * 81);
        Due.due("and more", h.rivals(0, 19, 0, 3), 1000);
        Due.due("cost of three", h.cost(9, 8, 7, 0, 11, 0), 3);
        Due.due("of the last alone", h.cost(9, NONE, NONE, 0, 3, 0), 1);
        h.rules("if begin place=8 do set end other 0");
        Due.due("the ninth changes the tenth", h.read(0, 19, 0), 6);
        Due.due("cost of it", h.cost(9, 8, NONE, 0, 7, 0), 3);
        int[][] rows = {{9, 9, 9, 8, 9}, {0, 1, 9, 0, 9}, {8, 8, 7, 9, 9}, {1, 1, 0, 9, 2}};
        for (int[] row : rows) {
            fullRow(row);
        }
    }

    /** Of ten signs each sees by its first state which one stands ahead of it, so that one row alone fits. */
    private static void fullRow(int[] row) {
        Hand h = new Hand();
        for (int i = 0; i < 10; i++) {
            h.sign("00000p" + i + "/11111/22222/00012o" + i);
            h.place(i, i, 2 * i);
        }
        h.rules("do set begin shape end other");
        for (int frame = 0; frame < 20; frame++) {
            int first = frame < 4 ? 0 : row[frame / 4 - 1];
            h.sight(1, frame, new int[] {first, 121, 242, 5}[frame % 4], row[frame / 4], 0, frame % 4 == 3 ? row[frame / 4] : NONE, 0);
        }
        Due.due("the least", h.read(0, 19, 0), 5);
        Due.due("five signs", h.best(-1), 5);
        for (int i = 0; i < 5; i++) {
            Due.due("sign " + i, h.best(i), row[i]);
        }
        Due.due("that row alone", h.rivals(0, 19, 0, 0), 1);
    }

    /** Two neighbours that leave unlike numbers of states, the fewer ahead of the more. */
    private static void statesLeft() {
        Due.sentence("each STATE having one at least");
        Hand h = Hand.with("11111p1", "00000/22222", "11110p2");
        h.rules("if end place=1 do drop begin;if end place=2 and begin states=2 do set begin shape 242");
        seenAll(h, 120, 242, 242);
        Due.due("2 and 1 needs three frames", h.cost(2, 1, NONE, 0, 1, 0), -6);
        Due.due("0 and 1 needs two", h.cost(0, 1, NONE, 0, 1, 0), 3);
        Due.due("the best of two frames", h.read(0, 1, 0), 3);
        Due.due("0 and 1", h.best(0) * 10 + h.best(1), 1);
        Due.due("the best of three", h.read(0, 2, 0), 2);
        Due.due("2 and 1", h.best(0) * 10 + h.best(1), 21);
    }

    /** Each value that can be seen beside the least and the greatest that a sign can have. */
    private static void costOfEachValue() {
        Due.sentence("the sum over MARKS that are JOINED of WEIGHT times DISTANCE");
        int[] weights = {2, 3, 5, 7};
        for (int mark = 0; mark < 4; mark++) {
            for (int from = 0; from <= MOST[mark]; from += 10) {
                Hand h = Hand.with("00000", "22222p19t7o9", "11111p10t4o5");
                for (int i = 0; i < 20; i++) {
                    h.place(i, (7 * i) % 21, 20 - i);
                }
                for (int i = 0; i < 4; i++) {
                    h.weight(i, weights[i]);
                }
                for (int value = from; value <= MOST[mark] && value < from + 10; value++) {
                    int[] told = {NONE, NONE, NONE, NONE};
                    told[mark] = value;
                    h.sight(0, value - from, told[0], told[1], told[2], told[3], 0);
                    for (int sign = 0; sign < 3; sign++) {
                        int due = 1 + weights[mark] * h.distance(mark, value, h.mark(sign, 0, mark));
                        Due.due("mark " + mark + " seen as " + value + " of sign " + sign,
                                h.cost(sign, NONE, NONE, value - from, value - from, 0), due);
                        int all = 1;
                        int[] edge = {mark == 0 ? value : 242, mark == 1 ? value : 19, mark == 2 ? value : 7, mark == 3 ? value : 9};
                        h.sight(1, 19, edge[0], edge[1], edge[2], edge[3], 0);
                        for (int i = 0; i < 4; i++) {
                            all += weights[i] * h.distance(i, edge[i], h.mark(sign, 0, i));
                        }
                        Due.due("all of it", h.cost(sign, NONE, NONE, 19, 19, 0), all);
                    }
                }
            }
        }
    }

    private static void ledPlaces() {
        Due.sentence("LED of a FRAME of the latest BEST: the place in its row (what 0), the STATE (1; NONE a SLIDE). NONE.");
        Hand h = Hand.with("00000/11111", "22222");
        h.weight(0, 20);
        seen(h, 5, 0);
        seen(h, 6, 121);
        seen(h, 7, 200);
        seen(h, 8, 242);
        Due.due("read", h.read(5, 8, 0), 7);
        int[] places = {0, 0, 0, 1};
        int[] states = {0, 1, NONE, 0};
        for (int i = 0; i < 4; i++) {
            Due.due("place", h.led(5 + i, 0), places[i]);
            Due.due("state", h.led(5 + i, 1), states[i]);
            for (int what : new int[] {-1, 2, 3, Hand.LEAST, Hand.MOST}) {
                Due.due("what " + what, h.led(5 + i, what), NONE);
            }
        }
        for (int frame : new int[] {-1, 0, 4, 9, 19, 20, 5 + 20, 5 - 20, Hand.LEAST, Hand.LEAST + 5, Hand.MOST, Hand.MOST - 4}) {
            Due.due("place of frame " + frame, h.led(frame, 0), NONE);
            Due.due("state of frame " + frame, h.led(frame, 1), NONE);
        }
        h.read(0, 19, 0);
        Due.due("frame 0", h.led(0, 0), 0);
        Due.due("frame 19", h.led(19, 0), 1);
        Due.due("frame 20", h.led(20, 0), NONE);
        h.read(19, 19, 0);
        Due.due("frame 19 alone", h.led(19, 0) * 10 + h.led(19, 1), 0);
        Due.due("not frame 18", h.led(18, 0), NONE);
    }

    private static void led(Hand h, String due) {
        String[] frames = due.split(" ");
        for (int frame = 0; frame < frames.length; frame++) {
            int state = frames[frame].charAt(1) == '-' ? NONE : frames[frame].charAt(1) - '0';
            Due.due("place of frame " + frame + " in " + due, h.led(frame, 0), frames[frame].charAt(0) - 'a');
            Due.due("state of frame " + frame + " in " + due, h.led(frame, 1), state);
        }
    }

    private static void ledTies() {
        Due.sentence("of its cheapest READINGS that in which each FRAME in order from the first on has the least place, then the"
                + " least STATE; a SLIDE counts behind all STATES of the SIGN ahead of it.");
        Hand h = Hand.with("00000/00001/00002");
        h.read(0, 5, 0);
        led(h, "a0 a0 a0 a0 a1 a2");
        seenAll(h, NONE, NONE, 1);
        h.read(0, 5, 0);
        led(h, "a0 a0 a1 a1 a1 a2");
        h = Hand.with("00000/00002", "22222");
        h.weight(0, 20);
        seenAll(h, 0, NONE, NONE, NONE, NONE, NONE, 242);
        h.read(0, 6, 0);
        led(h, "a0 a0 a0 a0 a0 a1 b0");
        h = Hand.with("00000", "22222");
        h.prices(0, 1);
        seenAll(h, 0, 121, NONE, 121, 242);
        Due.due("a slide costs less there", h.read(0, 4, 0), 2);
        led(h, "a0 a- a- a- b0");
        h = Hand.with("00000", "22222");
        h.prices(0, 1);
        seenAll(h, 0, NONE, 121, NONE, 242);
        Due.due("a state ahead of a slide", h.read(0, 4, 0), 2);
        led(h, "a0 a0 a- a- b0");
        seenAll(h, 0, 242, 242, 242, 242);
        h.prices(0, 1);
        Due.due("free slides count with the sign ahead", h.read(0, 4, 0), 2);
        led(h, "a0 a- a- a- b0");
        h.prices(1, 1);
        Due.due("slides that cost do not", h.read(0, 4, 0), 2);
        led(h, "a0 b0 b0 b0 b0");
        for (int frames = 2; frames <= 8; frames++) {
            h = Hand.with("00000", "22222");
            h.prices(0, 1);
            seen(h, 0, 0);
            StringBuilder due = new StringBuilder("a0");
            for (int frame = 1; frame < frames; frame++) {
                seen(h, frame, 242);
                due.append(frame <= 3 && frame < frames - 1 ? " a-" : " b0");
            }
            Due.due("three free slides at most", h.read(0, frames - 1, 0), 2);
            led(h, due.toString());
        }
        h = Hand.with("00000", "22222");
        h.weight(0, 20);
        h.prices(50, 1);
        seenAll(h, 0, 1, 1, 1, 121, 121, 121, 241, 242);
        Due.due("slides in place of what is far", h.read(0, 8, 0), 2 + 20 * 3 + 50 * 3 + 20);
        led(h, "a0 a0 a0 a0 a- a- a- b0 b0");
        h = Hand.with("00000/22222", "11111");
        h.prices(10, 0);
        seenAll(h, 0, 242, 8, 121);
        Due.due("a dear slide", h.read(0, 3, 0), 5);
        led(h, "a0 a1 b0 b0");
        h.prices(5, 0);
        Due.due("alike cost", h.read(0, 3, 0), 5);
        led(h, "a0 a1 a- b0");
        h = Hand.with("00000", "00001");
        h.weight(0, 20);
        seenAll(h, 0, NONE, NONE, 1, NONE, NONE, 0);
        Due.due("three signs", h.read(0, 6, 0), 3);
        led(h, "a0 a0 a0 b0 b0 b0 c0");
        h.prices(0, 1);
        Due.due("free slides instead of a sign", h.read(0, 6, 0), 2);
        led(h, "a0 a0 a0 a- a- a- b0");
    }

    private static void rivals() {
        Due.sentence("RIVALS within n (0 .. 200) of FRAMES from .. to as known; NONE (without any row that has a READING, too).");
        Hand h = new Hand();
        Due.due("no sign", h.rivals(0, 0, 0, 0), NONE);
        h.sign("00000/00000");
        Due.due("no reading", h.rivals(0, 0, 0, 200), NONE);
        Due.due("a reading", h.rivals(0, 1, 0, 0), 1);
        Due.due("status is not touched", h.rivals(0, 20, 0, 0) + h.status(), NONE);
        h = Hand.with("00000", "22222");
        h.weight(0, 20);
        seen(h, 0, 0);
        for (int n : new int[] {0, 1, 198, 199}) {
            Due.due("one row within " + n, h.rivals(0, 0, 0, n), 1);
        }
        Due.due("200 more", h.rivals(0, 0, 0, 200), 2);
        h.place(1, 1, 0);
        h.sign("22222p1");
        h.sight(0, 0, 0, 0, NONE, NONE, 0);
        Due.due("201 more", h.rivals(0, 0, 0, 200), 2);
        h.sight(0, 0, 1, 1, NONE, NONE, 0);
        Due.due("22 of 22, 182, 181", h.rivals(0, 0, 0, 158), 1);
        Due.due("up to 181", h.rivals(0, 0, 0, 159), 2);
        Due.due("up to 182", h.rivals(0, 0, 0, 160), 3);
        for (int bad : new int[] {-1, -2, 201, 202, Hand.LEAST, Hand.MOST}) {
            Due.due("n " + bad, h.rivals(0, 0, 0, bad), NONE);
        }
        h = Hand.with("00000");
        for (int n = 0; n < 20; n++) {
            Due.due("rows of up to " + (n + 1) + " signs", h.rivals(0, 19, 0, n), n + 1);
        }
        Due.due("no more than frames", h.rivals(0, 19, 0, 200), 20);
        Due.due("three frames", h.rivals(7, 9, 0, 200), 3);
        h.prices(5, 0);
        Due.due("of alike cost", h.rivals(0, 19, 0, 0), 20);
        h.prices(5, 200);
        Due.due("a second sign for 200", h.rivals(0, 19, 0, 200), 2);
        Due.due("not within 199", h.rivals(0, 19, 0, 199), 1);
        h.prices(5, 201);
        Due.due("not for 201", h.rivals(0, 19, 0, 200), 1);
    }

    private static void rivalsAtMost() {
        Due.sentence("RIVALS within n: how many rows have a COST of no more than that and n (1000 at most).");
        Hand two = Hand.with("00000", "00000");
        for (int n = 0; n < 20; n++) {
            int rows = (1 << n + 2) - 2;
            Due.due("rows of two signs within " + n, two.rivals(0, 19, 0, n), Math.min(1000, rows));
        }
        Hand ten = new Hand();
        for (int i = 0; i < 10; i++) {
            ten.sign("00000");
        }
        Due.due("ten", ten.rivals(0, 19, 0, 0), 10);
        Due.due("110", ten.rivals(0, 19, 0, 1), 110);
        Due.due("not 1110", ten.rivals(0, 19, 0, 2), 1000);
        Due.due("not more within 200", ten.rivals(0, 19, 0, 200), 1000);
        ten.prices(0, 0);
        Due.due("nor if all is free", ten.rivals(0, 19, 0, 0), 1000);
        Hand nine = new Hand();
        for (int i = 0; i < 9; i++) {
            nine.sign("00000");
        }
        Due.due("9 + 81 + 729", nine.rivals(0, 2, 0, 200), 819);
        Hand most = new Hand();
        for (int i = 0; i < 10; i++) {
            most.sign(i == 0 ? "00000/00000" : "00000");
        }
        Due.due("rows of three frames", most.rivals(0, 2, 0, 200), 10 + (81 + 18) + 729);
        Hand edge = new Hand();
        for (int i = 0; i < 10; i++) {
            edge.sign(i < 4 ? "00000" : "00001");
        }
        edge.weight(0, 1);
        seenAll(edge, 0, 0, 0);
        Due.due("4 + 16 + 64 of no distance", edge.rivals(0, 2, 0, 2), rowsWithin(edge, 2));
        Due.due("about a thousand", edge.rivals(0, 2, 0, 4), rowsWithin(edge, 4));
        Due.due("just below", edge.rivals(0, 2, 0, 3), rowsWithin(edge, 3));
    }

    /** Rows of up to three of ten signs of one state, of three frames, by asking for the cost of each. */
    private static int rowsWithin(Hand h, int n) {
        int least = 1;
        int rows = 0;
        for (int length = 1; length <= 3; length++) {
            int all = length == 1 ? 10 : length == 2 ? 100 : 1000;
            for (int row = 0; row < all; row++) {
                int far = 0;
                int near = 0;
                for (int rest = row, i = 0; i < length; i++, rest /= 10) {
                    far += rest % 10 < 4 ? 0 : 1;
                    near += rest % 10 < 4 ? 1 : 0;
                }
                int cost = length + (near == 0 ? 3 : far);
                rows += cost <= least + n ? 1 : 0;
            }
        }
        return Math.min(1000, rows);
    }
}
