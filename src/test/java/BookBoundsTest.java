/** The bounds of MARKS, DISTANCES, WEIGHTS, SURFACES and the BOOK, a sentence of the document after the other. */
public final class BookBoundsTest {
    private static final int NONE = Hand.NONE;
    private static final int[] MOST = {242, 19, 7, 9};
    private static final String[] MARKS = {"shape", "place", "turn", "other"};
    private static final int[] WILD = {Hand.LEAST, Hand.LEAST + 1, -1000, -3, 1000, 1 << 16, 1 << 30, Hand.MOST - 1, Hand.MOST};

    public static void main(String[] args) {
        marks();
        shapesApart();
        placesApart();
        turnsApart();
        othersApart();
        distanceRefused();
        weights();
        surfaces();
        seams();
        booksValues();
        sets();
        drops();
        near();
        gap();
        nearest();
        parting();
        like();
        Due.finish("BookBoundsTest");
    }

    private static void marks() {
        Due.sentence("A MARK of a STATE of a SIGN; how many STATES (state -1). NONE.");
        Hand h = Hand.with("00012p1t2o3/22222p19t7o9", "00000");
        int[] due = {5, 1, 2, 3, 242, 19, 7, 9};
        Due.due("states of two", h.mark(0, -1, 0), 2);
        Due.due("states of one", h.mark(1, -1, 3), 1);
        for (int i = 0; i < 8; i++) {
            Due.due("mark " + i, h.mark(0, i / 4, i % 4), due[i]);
            Due.due("0 of all", h.mark(1, 0, i % 4), 0);
            Due.due("no second state", h.mark(1, 1, i % 4), NONE);
            Due.due("no third state", h.mark(0, 2, i % 4), NONE);
            Due.due("state below -1", h.mark(0, -2, i % 4), NONE);
            Due.due("no third sign", h.mark(2, i / 4 - 1, i % 4), NONE);
            Due.due("no sign below 0", h.mark(-1, i / 4 - 1, i % 4), NONE);
        }
        for (int state = 0; state < 2; state++) {
            Due.due("mark 4", h.mark(0, state, 4), NONE);
            Due.due("mark -1", h.mark(0, state, -1), NONE);
        }
        for (int wild : WILD) {
            Due.due("sign " + wild, h.mark(wild, 0, 0), NONE);
            Due.due("state " + wild, h.mark(0, wild, 0), NONE);
            Due.due("mark " + wild, h.mark(0, 0, wild), NONE);
        }
        Due.due("no sign of an empty book", new Hand().mark(0, 0, 0), NONE);
        Due.due("nor states", new Hand().mark(0, -1, 0), NONE);
        h = Hand.with("00000/00001/00002/00010");
        Due.due("four states", h.mark(0, -1, 0), 4);
        Due.due("the fourth", h.mark(0, 3, 0), 3);
        Due.due("no fifth", h.mark(0, 4, 0), NONE);
    }

    private static void shapesApart() {
        Due.sentence("SHAPES: the sum of how far each finger's bends lie apart");
        Hand h = new Hand();
        int[] powers = {1, 3, 9, 27, 81};
        for (int power : powers) {
            Due.due("one bend of a finger", h.distance(0, 0, power), 1);
            Due.due("two bends of it", h.distance(0, 0, 2 * power), 2);
            Due.due("the other way", h.distance(0, 2 * power, power), 1);
            Due.due("one from the middle", h.distance(0, 121, 121 - power), 1);
        }
        Due.due("none", h.distance(0, 0, 0), 0);
        Due.due("none of the greatest", h.distance(0, 242, 242), 0);
        Due.due("all", h.distance(0, 0, 242), 10);
        Due.due("all, back", h.distance(0, 242, 0), 10);
        Due.due("half", h.distance(0, 121, 242), 5);
        Due.due("no sum across fingers", h.distance(0, 2, 3), 3);
    }

    private static void placesApart() {
        Due.sentence("PLACES: how far their x and y lie apart, together (each PLACE has an x, y, 0 .. 20; 0, 0 till told)");
        Hand h = new Hand();
        for (int place = 0; place < 20; place++) {
            Due.due("not told", h.distance(1, place, 19 - place), 0);
        }
        Due.due("place", h.place(0, 20, 20), 0);
        Due.due("place", h.place(19, 0, 0), 0);
        Due.due("the farthest", h.distance(1, 0, 19), 40);
        Due.due("back", h.distance(1, 19, 0), 40);
        Due.due("from one that was not told", h.distance(1, 0, 7), 40);
        h.place(19, 20, 0);
        Due.due("y alone", h.distance(1, 0, 19), 20);
        h.place(19, 0, 20);
        Due.due("x alone", h.distance(1, 0, 19), 20);
        h.place(0, 20, 0);
        Due.due("crosswise", h.distance(1, 0, 19), 40);
        h.place(0, 1, 19);
        Due.due("told anew", h.distance(1, 0, 19), 2);
        Due.sentence("x, y of a PLACE: 0; -1.");
        int[][] bad = {{-1, 5, 5}, {20, 5, 5}, {0, -1, 5}, {0, 21, 5}, {0, 5, -1}, {0, 5, 21}, {0, 21, 21}, {20, 21, -1}};
        for (int[] b : bad) {
            Due.due("place", h.place(b[0], b[1], b[2]), -1);
            Due.due("status", h.status(), -1);
            Due.due("places stay", h.distance(1, 0, 19), 2);
            Due.due("others too", h.distance(1, 18, 1), 0);
        }
        for (int wild : WILD) {
            Due.due("place " + wild, h.place(wild, 5, 5), -1);
            Due.due("x " + wild, h.place(0, wild, 5), -1);
            Due.due("y " + wild, h.place(0, 5, wild), -1);
        }
        Due.due("places stay", h.distance(1, 0, 19), 2);
        Due.due("a good one", h.place(1, 0, 0) + h.status(), 0);
    }

    private static void turnsApart() {
        Due.sentence("TURNS: the fewest steps round the eight");
        int[] due = {0, 1, 2, 3, 4, 3, 2, 1};
        Hand h = new Hand();
        for (int a = 0; a < 8; a++) {
            for (int b = 0; b < 8; b++) {
                Due.due("turns " + a + ", " + b, h.distance(2, a, b), due[(b - a + 8) % 8]);
            }
        }
    }

    private static void othersApart() {
        Due.sentence("OTHER: 0 alike, else 1.");
        Hand h = new Hand();
        for (int a = 0; a < 10; a++) {
            for (int b = 0; b < 10; b++) {
                Due.due("others " + a + ", " + b, h.distance(3, a, b), a == b ? 0 : 1);
            }
        }
    }

    private static void distanceRefused() {
        Due.sentence("DISTANCE of two values of a MARK; NONE.");
        Hand h = new Hand();
        for (int mark = 0; mark < 4; mark++) {
            int most = MOST[mark];
            Due.due("greatest", h.distance(mark, most, most), 0);
            Due.due("least", h.distance(mark, 0, 0), 0);
            Due.due("a above", h.distance(mark, most + 1, most), NONE);
            Due.due("b above", h.distance(mark, most, most + 1), NONE);
            Due.due("both above", h.distance(mark, most + 1, most + 1), NONE);
            Due.due("a below", h.distance(mark, -1, 0), NONE);
            Due.due("b below", h.distance(mark, 0, -1), NONE);
            Due.due("both below", h.distance(mark, -1, -1), NONE);
            for (int wild : WILD) {
                Due.due("a " + wild, h.distance(mark, wild, 0), NONE);
                Due.due("b " + wild, h.distance(mark, 0, wild), NONE);
            }
        }
        for (int mark : new int[] {-1, 4, 5, Hand.LEAST, Hand.MOST}) {
            Due.due("mark " + mark, h.distance(mark, 0, 0), NONE);
        }
        h.weight(0, 20);
        Due.due("without weight", h.distance(0, 0, 242), 10);
        Due.due("status is not touched", h.distance(4, 0, 0) + h.status(), NONE);
    }

    private static void weights() {
        Due.sentence("WEIGHTS of MARKS 0 .. 20 (1 each at first).");
        Hand h = Hand.with("00000", "22222p1t4o1");
        h.place(1, 20, 20);
        Due.due("1 each", h.gap(0, 1), 10 + 40 + 4 + 1);
        int[] apart = {10, 40, 4, 1};
        for (int mark = 0; mark < 4; mark++) {
            Due.due("1 at first", h.weight(mark, 20), 1);
            Due.due("gap", h.gap(0, 1), 55 + 19 * apart[mark]);
            Due.due("20 was it", h.weight(mark, 0), 20);
            Due.due("gap", h.gap(0, 1), 55 - apart[mark]);
            Due.due("status of a weight that was 20", h.status(), 0);
            for (int bad : new int[] {-1, 21, 22, -20, Hand.LEAST, Hand.MOST}) {
                Due.due("weight " + bad, h.weight(mark, bad), -1);
                Due.due("status", h.status(), -1);
                Due.due("gap stays", h.gap(0, 1), 55 - apart[mark]);
            }
            Due.due("0 was it", h.weight(mark, 1), 0);
            Due.due("status of a weight that was 0", h.status(), 0);
        }
        for (int bad : new int[] {-1, 4, 5, Hand.LEAST, Hand.MOST}) {
            Due.due("mark " + bad, h.weight(bad, 5), -1);
        }
        Due.due("all as they were", h.gap(0, 1), 55);
        for (int mark = 0; mark < 4; mark++) {
            h.weight(mark, 20);
        }
        Due.due("the greatest", h.gap(0, 1), 1100);
        for (int mark = 0; mark < 4; mark++) {
            h.weight(mark, 0);
        }
        Due.due("the least", h.gap(0, 1), 0);
    }

    private static Hand ruled(String rules, String... signs) {
        Hand h = Hand.with(signs);
        h.rules(rules);
        return h;
    }

    private static void surfaces() {
        Due.sentence("The same of its SURFACE behind a and ahead of c (NONE: nothing there). NONE.");
        Hand h = ruled("do set begin turn 1;do set end other 2", "00012p5/22222p6", "11111p7");
        Due.due("nothing there", h.surface(NONE, 0, NONE, 0, 2) + h.surface(NONE, 0, NONE, 1, 3), 0);
        Due.due("behind", h.surface(1, 0, NONE, 0, 2), 1);
        Due.due("ahead", h.surface(NONE, 0, 1, 1, 3), 2);
        Due.due("the other end", h.surface(1, 0, NONE, 1, 3), 0);
        Due.due("the other end too", h.surface(NONE, 0, 1, 0, 2), 0);
        Due.due("both", h.surface(1, 0, 1, 0, 2) * 10 + h.surface(1, 0, 1, 1, 3), 12);
        Due.due("behind itself", h.surface(0, 0, 0, 0, 2) * 10 + h.surface(0, 0, 0, 1, 3), 12);
        Due.due("one state", h.surface(0, 1, 0, 0, 2) * 10 + h.surface(0, 1, 0, 0, 3), 12);
        Due.due("states", h.surface(0, 0, 0, -1, 0), 2);
        Due.due("shape", h.surface(0, 0, 0, 0, 0), 5);
        Due.due("place", h.surface(0, 0, 0, 1, 1), 6);
        Due.due("the book's", h.mark(0, 0, 2) + h.mark(0, 1, 3), 0);
        for (int bad : new int[] {-2, 2, 3, 10, Hand.LEAST, Hand.MOST}) {
            Due.due("a " + bad, h.surface(bad, 0, 1, 0, 0), NONE);
            Due.due("b " + bad, h.surface(1, bad, 1, 0, 0), NONE);
            Due.due("c " + bad, h.surface(1, 0, bad, 0, 0), NONE);
            Due.due("states of a " + bad, h.surface(bad, 0, NONE, -1, 0), NONE);
            Due.due("states of b " + bad, h.surface(NONE, bad, NONE, -1, 0), NONE);
            Due.due("states of c " + bad, h.surface(NONE, 0, bad, -1, 0), NONE);
            Due.due("state " + bad, h.surface(1, 0, 1, bad, 0), NONE);
        }
        Due.due("b NONE", h.surface(0, NONE, 0, 0, 0), NONE);
        for (int bad : new int[] {-1, 4, Hand.LEAST, Hand.MOST}) {
            Due.due("mark " + bad, h.surface(1, 0, 1, 0, bad), NONE);
        }
        h.rules("do drop end");
        Due.due("one state is left", h.surface(NONE, 0, 1, -1, 0), 1);
        Due.due("no second", h.surface(NONE, 0, 1, 1, 0), NONE);
        Due.due("status is not touched", h.status(), 0);
        Due.due("of an empty book", new Hand().surface(NONE, 0, NONE, -1, 0), NONE);
    }

    private static void seams() {
        Due.sentence("changed by RULES for the seam of a and b, then by those for the seam of b and c.");
        Hand h = ruled("do set begin turn 1;do set end turn 2", "00000", "11111", "22222");
        Due.due("the seam ahead, then that behind", h.surface(0, 1, 2, 0, 2), 2);
        h.rules("do set end turn 2;do set begin turn 1");
        Due.due("whatever the rules' order", h.surface(0, 1, 2, 0, 2), 2);
        h = ruled("do drop begin;do set end place 9,drop end", "00000/00001", "11111/11112p3", "22222/22220");
        Due.due("drop of the seam ahead", h.surface(0, 1, 2, -1, 0), 1);
        Due.due("none is left for that behind", h.surface(0, 1, 2, 0, 0), 122);
        Due.due("it is changed", h.surface(0, 1, 2, 0, 1), 9);
        Due.sentence("For a seam of two SIGNS each RULE in order whose TEST is so acts");
        h = ruled("if 1=1 do set end turn 1;if 1=2 do set end turn 2;do set end other 3;if 2=1 do set end other 4", "00000");
        Due.due("the last that acts", h.surface(NONE, 0, 0, 0, 2), 1);
        Due.due("the last that acts of another mark", h.surface(NONE, 0, 0, 0, 3), 3);
        h.rules("do set end turn 1,set end turn 2;do set end turn 3,set end turn 4");
        Due.due("acts in order", h.surface(NONE, 0, 0, 0, 2), 4);
        Due.sentence("(ACTS upon the other SIGN of the seam do nothing to this one.)");
        h = ruled("do drop begin,set begin turn 5", "00000/00001/00002", "11111/11112");
        Due.due("states ahead of the seam", h.surface(NONE, 0, 1, -1, 0), 3);
        Due.due("turn ahead of the seam", h.surface(NONE, 0, 1, 0, 2), 0);
        Due.due("states behind the seam", h.surface(0, 1, NONE, -1, 0), 1);
        Due.due("turn behind the seam", h.surface(0, 1, NONE, 0, 2), 5);
        h.rules("do drop end,set end turn 5");
        Due.due("states behind the seam now", h.surface(0, 1, NONE, -1, 0), 2);
        Due.due("turn behind the seam now", h.surface(0, 1, NONE, 1, 2), 0);
        Due.due("states ahead of the seam now", h.surface(NONE, 0, 1, -1, 0), 2);
        Due.due("turn ahead of the seam now", h.surface(NONE, 0, 1, 1, 2), 5);
    }

    private static void booksValues() {
        Due.sentence("a VALUE there is always that of the BOOK");
        Hand h = ruled("do set begin place 9;if begin place=9 do set begin turn 7;if begin place=1 do set begin other 6",
                "00000", "11111p1");
        Due.due("a test of what was set", h.surface(0, 1, NONE, 0, 2), 0);
        Due.due("a test of the book", h.surface(0, 1, NONE, 0, 3), 6);
        h.rules("do set begin place 7,set begin turn begin place");
        Due.due("a value of what was set", h.surface(0, 1, NONE, 0, 2), 1);
        h.rules("do set begin place 3;do set end turn end place");
        Due.due("of the seam ahead too", h.surface(0, 1, 0, 0, 2), 1);
        h = ruled("do drop end,drop end;do set end turn end states", "00000/11111/22222p3", "00000");
        Due.due("states of the book", h.surface(NONE, 0, 1, 0, 2), 3);
        h.rules("do drop end;do set end turn end place");
        Due.due("the last state of the book", h.surface(NONE, 0, 1, 1, 2), 3);
        h.rules("do drop end;if end place=3 do drop end");
        Due.due("a test of the last state of the book", h.surface(NONE, 0, 1, -1, 0), 1);
        h = ruled("do set end shape begin shape,set begin shape end shape", "00001", "00002");
        Due.due("each takes the other's", h.surface(NONE, 0, 1, 0, 0) * 10 + h.surface(0, 1, NONE, 0, 0), 21);
    }

    private static void sets() {
        Due.sentence("\"set\" gives the last (first) STATE of the SURFACE that MARK, if the VALUE is one of that MARK's"
                + " (else nothing)");
        Hand h = Hand.with("11111p5t5o5/22222p6t6o6", "00012p7t7o7");
        for (int mark = 0; mark < 4; mark++) {
            int last = new int[] {242, 6, 6, 6}[mark];
            int first = new int[] {121, 5, 5, 5}[mark];
            for (int value : new int[] {0, 1, MOST[mark], MOST[mark] + 1, MOST[mark] + 2, 255, 256, 512, 999}) {
                boolean fits = value <= MOST[mark];
                h.end(0);
                h.rules("do set end " + MARKS[mark] + " " + value);
                Due.due("end " + MARKS[mark] + " " + value, h.surface(NONE, 0, 1, 1, mark), fits ? value : last);
                Due.due("not the first", h.surface(NONE, 0, 1, 0, mark), first);
                h.rules("do set begin " + MARKS[mark] + " " + value);
                Due.due("begin " + MARKS[mark] + " " + value, h.surface(1, 0, NONE, 0, mark), fits ? value : first);
                Due.due("not the last", h.surface(1, 0, NONE, 1, mark), last);
            }
        }
        h = ruled("do set end place begin shape,set end turn begin place,set end other begin shape", "00000p1t1o1",
                "00201p7", "00202p8", "00100p19");
        Due.due("shape 19 as a place", h.surface(NONE, 0, 1, 0, 1), 19);
        Due.due("shape 20 as a place", h.surface(NONE, 0, 2, 0, 1), 1);
        Due.due("place 7 as a turn", h.surface(NONE, 0, 1, 0, 2), 7);
        Due.due("place 8 as a turn", h.surface(NONE, 0, 2, 0, 2), 1);
        Due.due("shape 9 as an other", h.surface(NONE, 0, 3, 0, 3), 9);
        Due.due("shape 19 as an other", h.surface(NONE, 0, 1, 0, 3), 1);
        h.rules("do set end turn 3,set end turn 8");
        Due.due("nothing leaves what was set", h.surface(NONE, 0, 1, 0, 2), 3);
        h.rules("do set end other 999,set end place 2");
        Due.due("the acts behind it go on", h.surface(NONE, 0, 1, 0, 1), 2);
    }

    private static void drops() {
        Due.sentence("\"drop\" takes it away, if another one is left.");
        Hand h = Hand.with("00001/00002/00010/00011", "22222");
        for (int drops = 1; drops <= 5; drops++) {
            int left = Math.max(1, 4 - drops);
            h.rules("do drop end" + ",drop end".repeat(drops - 1));
            Due.due(drops + " of the end", h.surface(NONE, 0, 1, -1, 0), left);
            Due.due("the first stays", h.surface(NONE, 0, 1, 0, 0), 1);
            Due.due("the last that is left", h.surface(NONE, 0, 1, left - 1, 0), left);
            Due.due("no more", h.surface(NONE, 0, 1, left, 0), NONE);
            h.rules("do drop begin" + ",drop begin".repeat(drops - 1));
            Due.due(drops + " of the begin", h.surface(1, 0, NONE, -1, 0), left);
            Due.due("the last stays", h.surface(1, 0, NONE, left - 1, 0), 4);
            Due.due("the first that is left", h.surface(1, 0, NONE, 0, 0), Math.min(4, drops + 1));
            Due.due("none of one", h.surface(NONE, 1, 0, -1, 0), 1);
            Due.due("it stays", h.surface(0, 1, NONE, 0, 0), 242);
        }
        h.rules("do drop begin,drop end");
        Due.due("of both", h.surface(1, 0, 1, -1, 0), 2);
        Due.due("the second", h.surface(1, 0, 1, 0, 0), 2);
        Due.due("the third", h.surface(1, 0, 1, 1, 0), 3);
        h.rules("do drop begin,drop end,drop begin,drop end,drop end");
        Due.due("of both till one", h.surface(1, 0, 1, -1, 0), 1);
        Due.due("the seam ahead first", h.surface(1, 0, 1, 0, 0), 3);
        h.rules("do drop end,set end place 4");
        Due.due("set behind a drop", h.surface(NONE, 0, 1, 2, 1), 4);
        h.rules("do set end place 4,drop end");
        Due.due("set ahead of a drop", h.surface(NONE, 0, 1, 2, 1), 0);
        h.rules("do drop begin,set begin place 4");
        Due.due("set behind a drop of the begin", h.surface(1, 0, NONE, 0, 1), 4);
        Due.due("that state alone", h.surface(1, 0, NONE, 1, 1), 0);
    }

    private static void near() {
        Due.sentence("NEAR: two SIGNS of as many STATES that are unlike in just one MARK of one STATE.");
        String four = "00001p1t1o1/00002p2t2o2/00010p3t3o3/00011p4t4o4";
        String[] others = {"00000p1t1o1", "00001p0t1o1", "00001p1t0o1", "00001p1t1o0", "00000p2t2o2", "00002p0t2o2",
            "00002p2t0o2", "00002p2t2o0", "00000p3t3o3", "00010p0t3o3", "00010p3t0o3", "00010p3t3o0", "00000p4t4o4",
            "00011p0t4o4", "00011p4t0o4", "00011p4t4o0"};
        for (int i = 0; i < 16; i++) {
            String[] states = four.split("/");
            states[i / 4] = others[i];
            Hand h = Hand.with(four, String.join("/", states));
            Due.due("by mark " + i, h.near(0, 1), i);
            Due.due("the other way", h.near(1, 0), i);
        }
        Hand h = Hand.with("00000/00000", "00000p1/00000p1", "00000p1t1/00000p0t0", "00000/00000", "00000", "00000p1",
                "00000/00000p19", "00000/00000/00000");
        Due.due("one mark of two states", h.near(0, 1), NONE);
        Due.due("two marks of one state", h.near(0, 2), NONE);
        Due.due("alike", h.near(0, 3), NONE);
        Due.due("itself", h.near(0, 0), NONE);
        Due.due("of fewer states", h.near(0, 4), NONE);
        Due.due("of more states", h.near(4, 0), NONE);
        Due.due("three and two", h.near(7, 0), NONE);
        Due.due("one state", h.near(4, 5), 1);
        Due.due("however far", h.near(0, 6), 5);
        Due.sentence("NONE (no such SIGNS, too).");
        for (int bad : new int[] {-1, 8, 9, 10, Hand.LEAST, Hand.MOST}) {
            Due.due("a " + bad, h.near(bad, 0), NONE);
            Due.due("b " + bad, h.near(0, bad), NONE);
            Due.due("both " + bad, h.near(bad, bad), NONE);
        }
    }

    private static void gap() {
        Due.sentence("(each step goes on in the one, in the other, or in both; both from their first to their last)");
        Hand h = Hand.with("00000", "22222", "00000/22222", "22222/00000", "00000/00000/22222/22222",
                "00000/22222/00000/22222", "00000/11111", "00000/22222/22222/22222");
        Due.due("one and one", h.gap(0, 1), 10);
        Due.due("itself", h.gap(5, 5), 0);
        Due.due("on in the other", h.gap(0, 2), 10);
        Due.due("on in the one", h.gap(2, 0), 10);
        Due.due("in both", h.gap(2, 3), 20);
        Due.due("each twice", h.gap(2, 4), 0);
        Due.due("the other way", h.gap(4, 2), 0);
        Due.due("the last four times", h.gap(2, 7), 0);
        Due.due("no step back", h.gap(2, 5), 10);
        Due.due("two and two", h.gap(2, 6), 5);
        Due.due("four and one", h.gap(5, 0), 20);
        Due.due("one and four", h.gap(0, 5), 20);
        Due.due("four and four", h.gap(4, 5), 10);
        Due.due("first to first", h.gap(3, 4), 30);
        Due.sentence("of WEIGHTED DISTANCES of the STATES that are beside one another.");
        Hand g = Hand.with("00000/00000/00000/00000", "22222p1t4o1/22222p1t4o1/22222p1t4o1/22222p1t4o1");
        g.place(1, 20, 20);
        Due.due("four states of all marks", g.gap(0, 1), 4 * 55);
        for (int mark = 0; mark < 4; mark++) {
            g.weight(mark, 20);
        }
        Due.due("the greatest there is", g.gap(0, 1), 4 * 1100);
        for (int mark = 0; mark < 4; mark++) {
            g.weight(mark, 0);
        }
        Due.due("the least", g.gap(0, 1), 0);
        Due.due("rules do nothing to it", ruled("do drop end,drop begin", "00000/22222", "00000").gap(0, 1), 10);
        Due.sentence("GAP of two SIGNS; NONE.");
        for (int bad : new int[] {-1, 8, 10, Hand.LEAST, Hand.MOST}) {
            Due.due("a " + bad, h.gap(bad, 0), NONE);
            Due.due("b " + bad, h.gap(0, bad), NONE);
            Due.due("both " + bad, h.gap(bad, bad), NONE);
        }
        Due.due("of an empty book", new Hand().gap(0, 0), NONE);
    }

    private static void nearest() {
        Due.sentence("The SIGN that has the least GAP to a SIGN, of alike ones the lowest (another one); NONE.");
        Due.due("alone", Hand.with("00000").nearest(0), NONE);
        Due.due("of an empty book", new Hand().nearest(0), NONE);
        Hand h = Hand.with("00000", "00002", "00020", "00001", "00010", "22222", "00000");
        Due.due("alike itself", h.nearest(0), 6);
        Due.due("not itself", h.nearest(6), 0);
        Due.due("least", h.nearest(1), 3);
        Due.due("of alike ones the lowest", h.nearest(3), 0);
        Due.due("far", h.nearest(5), 1);
        for (int bad : new int[] {-1, 7, 10, Hand.LEAST, Hand.MOST}) {
            Due.due("sign " + bad, h.nearest(bad), NONE);
        }
        for (int mark = 0; mark < 4; mark++) {
            h.weight(mark, 0);
        }
        Due.due("all alike", h.nearest(0), 1);
        Due.due("all alike but itself", h.nearest(4), 0);
        Hand far = Hand.with("00000/00000/00000/00000", "22222p1t4o1/22222p1t4o1/22222p1t4o1/22222p1t4o1");
        far.place(1, 20, 20);
        for (int mark = 0; mark < 4; mark++) {
            far.weight(mark, 20);
        }
        Due.due("however far", far.nearest(0) * 10 + far.nearest(1), 10);
        Hand ten = new Hand();
        for (int i = 0; i < 10; i++) {
            ten.sign(i == 0 || i == 9 ? "00000" : "22222");
        }
        Due.due("the tenth", ten.nearest(0), 9);
        Due.due("of the tenth", ten.nearest(9), 0);
    }

    private static void parting() {
        Due.sentence("the fewest of the 16 MARKS of STATES (STATE times 4 and MARK; a STATE that is not there is a value of its"
                + " own) by which all SIGNS that are unlike in some are unlike; of alike ones the lowest bits.");
        Due.due("no sign", new Hand().parting(), 0);
        Due.due("one sign", Hand.with("00000").parting(), 0);
        Due.due("alike ones", Hand.with("00000/00001", "00000/00001", "00000/00001").parting(), 0);
        String zeros = "00000/00000/00000/00000";
        String[] ones = {"00001", "00000p1", "00000t1", "00000o1"};
        for (int i = 0; i < 16; i++) {
            StringBuilder text = new StringBuilder();
            for (int state = 0; state < 4; state++) {
                text.append(state > 0 ? "/" : "").append(state == i / 4 ? ones[i % 4] : "00000p0t0o0");
            }
            Due.due("by mark " + i, Hand.with(zeros, text.toString()).parting(), 1 << i);
        }
        Due.due("the lowest of four", Hand.with("00000", "00001p1t1o1").parting(), 1);
        Due.due("the lowest of three", Hand.with("00000", "00000p1t1o1").parting(), 2);
        Due.due("two are told apart", Hand.with("00000", "00000p1", "00000t1").parting(), 6);
        Due.due("one tells three apart", Hand.with("00000", "00000p1", "00000p2t1").parting(), 2);
        Due.due("few ahead of low", Hand.with("00000", "00001o1", "00000p1o2").parting(), 8);
        for (int states = 1; states <= 3; states++) {
            String fewer = "00000" + "/00000".repeat(states - 1);
            Due.due("a state more than " + states, Hand.with(fewer, fewer + "/00000").parting(), 1 << 4 * states);
            Due.due("four and " + states, Hand.with(zeros, fewer).parting(), 1 << 4 * states);
        }
        Due.due("not there and not there", Hand.with("00000", "00001").parting(), 1);
        Due.due("one, two, three states", Hand.with("00000", "00000/00000", "00000/00000/00000").parting(), 16 + 256);
        Due.due("one of each number", Hand.with("00000", "00000/00000", "00000/00000/00000", zeros).parting(),
                16 + 256 + 4096);
        Due.due("a value of its own", Hand.with("00000", "00000/00000", "00000/00000p1").parting(), 32);
        Hand ten = new Hand();
        ten.sign(zeros);
        int bits = 0;
        for (int i = 0; i < 9; i++) {
            int mark = 15 - i;
            StringBuilder text = new StringBuilder();
            for (int state = 0; state < 4; state++) {
                text.append(state > 0 ? "/" : "").append(state == mark / 4 ? ones[mark % 4] : "00000p0t0o0");
            }
            ten.sign(text.toString());
            bits |= 1 << mark;
        }
        Due.due("nine marks", ten.parting(), bits);
        Hand shapes = new Hand();
        for (int i = 0; i < 10; i++) {
            shapes.sign("0000" + i % 3 + "p" + i);
        }
        for (int i = 0; i < 4; i++) {
            Due.due("one mark of ten", shapes.parting(), 2);
        }
        Hand back = Hand.with("00000", "00000p1");
        back.image(0);
        back.sign("00001");
        back.sign("00002t1");
        Due.due("of four signs", back.parting(), 3);
        back.back(0);
        Due.due("of two signs again", back.parting(), 2);
    }

    private static void like() {
        Due.sentence("LIKE a sight: SIGNS some STATE of which has all MARKS told (NONE: any).");
        Hand h = new Hand();
        Due.due("of an empty book", h.like(NONE, NONE, NONE, NONE), 0);
        for (int i = 0; i < 10; i++) {
            h.sign((i < 5 ? "00000" : "22222") + "p" + 2 * i + "t" + i % 8 + "o" + (9 - i) + (i == 3 ? "/11111p19t7o9" : ""));
        }
        Due.due("any", h.like(NONE, NONE, NONE, NONE), 1023);
        for (int i = 0; i < 10; i++) {
            Due.due("place of " + i, h.like(NONE, 2 * i, NONE, NONE), 1 << i);
            Due.due("other of " + i, h.like(NONE, NONE, NONE, 9 - i), 1 << i | (i == 0 ? 8 : 0));
            Due.due("turn of " + i, h.like(NONE, NONE, i % 8, NONE) & 1 << i, 1 << i);
            Due.due("all of " + i, h.like(i < 5 ? 0 : 242, 2 * i, i % 8, 9 - i), 1 << i);
        }
        Due.due("shape 0", h.like(0, NONE, NONE, NONE), 31);
        Due.due("shape 242", h.like(242, NONE, NONE, NONE), 992);
        Due.due("a later state", h.like(121, NONE, NONE, NONE), 8);
        Due.due("all of one state", h.like(121, 19, 7, 9), 8);
        Due.due("not across states", h.like(121, 6, NONE, NONE), 0);
        Due.due("place 19", h.like(NONE, 19, NONE, NONE), 8);
        Due.due("none", h.like(1, NONE, NONE, NONE), 0);
        Due.sentence("SIGNS LIKE a sight, as bits. NONE for MARKS that can't be.");
        for (int mark = 0; mark < 4; mark++) {
            for (int bad : new int[] {-2, MOST[mark] + 1, MOST[mark] + 2, 1000, Hand.LEAST, Hand.MOST}) {
                int[] told = {NONE, NONE, NONE, NONE};
                told[mark] = bad;
                Due.due("mark " + mark + " of " + bad, h.like(told[0], told[1], told[2], told[3]), NONE);
            }
        }
        Due.due("an empty book too", new Hand().like(243, 0, 0, 0), NONE);
    }
}
