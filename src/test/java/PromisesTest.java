import java.math.BigInteger;

/** Each promise by hand: ordinary inputs, the edges that the document names, and wrong inputs. */
public final class PromisesTest {
    private static final int NONE = HandTongue.NONE;
    private static final int LEAST = Integer.MIN_VALUE;
    private static final int MOST = Integer.MAX_VALUE;
    private static int wrong = 0;
    private static int made = 0;
    private static int promise = 0;

    private static void due(String call, long got, long want) {
        made++;
        if (got != want) {
            wrong++;
            System.out.println("promise " + promise + ": " + call + " answered " + got + ", due is " + want);
        }
    }

    public static void main(String[] args) {
        aNewObject();
        tape();
        signTexts();
        ruleTexts();
        faults();
        settings();
        marks();
        surfaces();
        distances();
        sights();
        trusts();
        clashes();
        readings();
        slides();
        led();
        rivals();
        costs();
        nearAndGap();
        partings();
        likes();
        variants();
        uses();
        shares();
        images();
        counts();
        statuses();
        System.out.println("PromisesTest: " + made + " answers, " + wrong + " wrong");
        if (wrong != 0) {
            System.exit(1);
        }
    }

    /** Feeds a text behind the tape and cuts what the last twenty bytes have too much. */
    private static void feed(HandTongue h, String text) {
        int start = h.count(4);
        for (int from = 0; from < text.length(); from += 20) {
            int[] five = new int[5];
            for (int i = 0; i < 20 && from + i < text.length(); i++) {
                five[i / 4] |= text.charAt(from + i) << 24 - 8 * (i % 4);
            }
            h.feed(five[0], five[1], five[2], five[3], five[4]);
        }
        h.end(start + text.length());
    }

    private static int sign(HandTongue h, String text) {
        feed(h, text);
        return h.sign();
    }

    private static int rules(HandTongue h, String text) {
        feed(h, text);
        return h.rules();
    }

    private static HandTongue with(String... signs) {
        HandTongue h = new HandTongue();
        for (String text : signs) {
            sign(h, text);
        }
        return h;
    }

    private static void aNewObject() {
        promise = 1;
        HandTongue h = new HandTongue();
        for (int what = 0; what < 5; what++) {
            due("count(" + what + ")", h.count(what), 0);
        }
        due("fault()", h.fault(), NONE);
        due("status()", h.status(), 0);
        due("best(-1)", h.best(-1), NONE);
        due("best(0)", h.best(0), NONE);
        due("led(0, 0)", h.led(0, 0), NONE);
        due("mark(0, -1, 0)", h.mark(0, -1, 0), NONE);
        due("joined(0, 0, 999)", h.joined(0, 0, 999), NONE);
        due("parting()", h.parting(), 0);
        due("like of any", h.like(NONE, NONE, NONE, NONE), 0);
        due("distance of places", h.distance(1, 0, 19), 0);
        due("region(0, 0)", h.region(0, 0), 0);
        due("share(0, 0, 0, 0)", h.share(0, 0, 0, 0), 1);
        due("share(0, 0, 0, 1)", h.share(0, 0, 0, 1), 3);
        due("weight(0, 1)", h.weight(0, 1), 1);
        due("trust(0, 50)", h.trust(0, 50), 50);
        due("prior(0, 1)", h.prior(0, 1), 1);
        due("NONE", HandTongue.NONE, -1);
    }

    private static void tape() {
        promise = 2;
        HandTongue h = new HandTongue();
        due("feed", h.feed(0x30313230, 0x32200000, -1, 0, LEAST), 20);
        due("end(6)", h.end(6), 6);
        due("highest byte first", h.sign(), 0);
        due("shape 01202", h.mark(0, 0, 0), 27 + 2 * 9 + 2);
        for (int i = 1; i <= 20; i++) {
            due("feed " + i, h.feed(0x20202020, 0x20202020, 0x20202020, 0x20202020, 0x20202020), 20 * i);
        }
        due("feed above 400", h.feed(0, 0, 0, 0, 0), NONE);
        due("bytes stay", h.count(4), 400);
        due("end(381)", h.end(381), 381);
        due("feed to 401", h.feed(0, 0, 0, 0, 0), NONE);
        due("end(380)", h.end(380), 380);
        due("feed to 400", h.feed(0, 0, 0, 0, 0), 400);
        promise = 3;
        due("end(401)", h.end(401), NONE);
        due("end(-1)", h.end(-1), NONE);
        due("end(LEAST)", h.end(LEAST), NONE);
        due("bytes stay", h.count(4), 400);
        due("end(400)", h.end(400), 400);
        due("end(7)", h.end(7), 7);
        due("end(8)", h.end(8), NONE);
        due("end(0)", h.end(0), 0);
        due("bytes gone", h.count(4), 0);
    }

    private static void signTexts() {
        promise = 4;
        HandTongue h = new HandTongue();
        due("blanks everywhere", sign(h, "  00012  p 19t7 o 9 / 22222o0 p3p4  "), 0);
        due("tape is empty", h.count(4), 0);
        due("states", h.mark(0, -1, 0), 2);
        due("place", h.mark(0, 0, 1), 19);
        due("turn", h.mark(0, 0, 2), 7);
        due("other", h.mark(0, 0, 3), 9);
        due("last place counts", h.mark(0, 1, 1), 4);
        due("turn of the state ahead", h.mark(0, 1, 2), 7);
        due("other told anew", h.mark(0, 1, 3), 0);
        due("zeros ahead", sign(h, "10000p0019t00000007"), 1);
        due("first finger the highest", h.mark(1, 0, 0), 81);
        due("place of zeros ahead", h.mark(1, 0, 1), 19);
        due("0 without", h.mark(1, 0, 3), 0);
        due("four states", sign(h, "00000/00001/00002/00010"), 2);
        due("states", h.mark(2, -1, 0), 4);
        for (int i = 3; i < 10; i++) {
            due("sign " + i, sign(h, "00000"), i);
        }
        feed(h, "abc");
        due("no room ahead of reading", h.sign(), -5);
        due("status", h.status(), -5);
        due("no fault was read", h.fault(), NONE);
        due("tape is empty", h.count(4), 0);
        due("feed behind it", h.feed(0, 0, 0, 0, 0), 20);
        due("signs", h.count(0), 10);
        due("rules can't be", h.rules(), -6);
        due("fault", h.fault(), 0);
        feed(h, "00000");
        due("no room again", h.sign(), -5);
        due("fault stays", h.fault(), 0);
        due("tape is empty again", h.count(4), 0);
        due("no room of an empty tape", h.sign(), -5);
        due("no rules were left", h.rules(), 0);
    }

    private static void badSign(String text, int place) {
        HandTongue h = with("11111");
        due("sign of " + text, sign(h, text), -6);
        due("fault of " + text, h.fault(), place);
        due("status of " + text, h.status(), -6);
        due("signs after " + text, h.count(0), 1);
        due("tape after " + text, h.count(4), 0);
    }

    private static void badRules(String text, int place) {
        HandTongue h = new HandTongue();
        rules(h, "do drop end;do drop begin");
        due("rules of " + text, rules(h, text), -6);
        due("fault of " + text, h.fault(), place);
        due("rules after " + text, h.count(1), 2);
        due("tape after " + text, h.count(4), 0);
        due("blanks alone", rules(h, "   "), 0);
        due("no fault then", h.fault(), NONE);
    }

    private static void ruleTexts() {
        promise = 5;
        HandTongue h = with("00000/11111", "22222p5");
        due("one rule", rules(h, "do drop end"), 1);
        due("rules are new each time", rules(h, "if 1=1 do drop end;do set begin turn 3;do drop begin"), 3);
        due("count(1)", h.count(1), 3);
        due("tape is empty", h.count(4), 0);
        due("without blanks", rules(h, "if(1=1)do set end place 3,drop begin;if not 1<2do drop end"), 2);
        due("empty tape", h.rules(), 0);
        due("no rules then", h.count(1), 0);
        due("12 rules", rules(h, "do drop end;".repeat(11) + "do drop end"), 12);
        due("40 acts", rules(h, "do drop end" + ",drop end".repeat(38) + ";do drop end"), 2);
        due("40 facts", rules(h, "if 1=1" + "or 1=1".repeat(19) + "do drop end;if 2=2" + "or 2=2".repeat(19)
                + "do drop end"), 2);
        due("6 within one another", rules(h, "if ((((((1=1)))))) and ((((((1=1)))))) do drop end"), 1);
        due("many nots", rules(h, "if " + "not ".repeat(90) + "1=1 do drop end"), 1);
        due("an even number of nots", h.surface(NONE, 0, 1, -1, 0), 1);
        due("many nots", rules(h, "if " + "not ".repeat(91) + "1=1 do drop end"), 1);
        due("an odd number of nots", h.surface(NONE, 0, 1, -1, 0), 2);
        due("numbers to 999", rules(h, "if 999>998 and 0999=999 do set end shape 999"), 1);
        String[] so = {"1<2", "2>1", "2=2", "not 2<1", "1=2 or 1=1", "1=1 and 2=2", "1=1 or 1=1 and 1=2",
            "(1=1 or 1=1) and 1=1", "not(1=1 and 1=2)", "not 1=2 and 1=1", "not not 1=1", "1=2 and 1=1 or 1=1",
            "not (not 1=1 or 1=2)"};
        for (String test : so) {
            due("rule of " + test, rules(h, "if " + test + " do drop end"), 1);
            due("so: " + test, h.surface(NONE, 0, 1, -1, 0), 1);
        }
        String[] notSo = {"2<1", "1<1", "1>2", "1>1", "1=2", "not 1=1", "(1=1 or 1=1) and 1=2", "1=2 or 1=1 and 1=2",
            "not (1=1 or 1=2)", "not 1=1 or 1=2", "1=1 and not 1=1"};
        for (String test : notSo) {
            due("rule of " + test, rules(h, "if " + test + " do drop end"), 1);
            due("not so: " + test, h.surface(NONE, 0, 1, -1, 0), 2);
        }
    }

    private static void faults() {
        promise = 6;
        badSign("", 0);
        badSign("   ", 3);
        badSign("0000", 0);
        badSign(" 000000", 1);
        badSign("00003", 0);
        badSign("00000p20", 6);
        badSign("00000t8", 6);
        badSign("00000o10", 6);
        badSign("00000p", 6);
        badSign("00000p  ", 8);
        badSign("00000pp1", 5);
        badSign("00000 p1 x2", 9);
        badSign("00000p/", 6);
        badSign("00000/", 6);
        badSign("00000 /00001/00002/00010/ 00011", 26);
        badSign("00000/00001/00002/00010/", 24);
        badSign("00000 00000", 6);
        badSign("00000p99999999999999999999", 6);
        badSign("00000P1", 5);
        badSign("00000\u0000", 5);
        badSign("00000,", 5);
        badRules("do", 2);
        badRules("if", 2);
        badRules("drop end", 0);
        badRules("do drop", 7);
        badRules("do drop middle", 8);
        badRules("do set end 5", 11);
        badRules("do set end place", 16);
        badRules("do set end states 3", 11);
        badRules("do set end place 1000", 17);
        badRules("do set end place begin", 22);
        badRules("do drop end;", 12);
        badRules("do drop end,", 12);
        badRules("do drop end do", 12);
        badRules(";", 0);
        badRules("if 1 do drop end", 5);
        badRules("if 1== 2 do drop end", 5);
        badRules("if 1=2 and do drop end", 11);
        badRules("if (1=2 do drop end", 8);
        badRules("if 1=2) do drop end", 6);
        badRules("if not do drop end", 7);
        badRules("if end=1 do drop end", 6);
        badRules("if ends place=1 do drop end", 3);
        badRules("dodrop end", 0);
        badRules("doz drop end", 0);
        badRules("ado drop end", 0);
        badRules("do drop endz", 8);
        badRules("do drop end`", 11);
        badRules("do drop end{", 11);
        badRules("do drop end/", 11);
        badRules("do drop end:", 11);
        badRules("Do drop end", 0);
        badRules("if 1000=1 do drop end", 3);
        badRules("if (((((((1=1))))))) do drop end", 9);
        badRules("if ((((((1=1 and (2=2))))))) do drop end", 17);
        badRules("do drop end;".repeat(12) + " do drop end", 145);
        badRules("do drop end" + ",drop end".repeat(39) + ", drop end", 11 + 39 * 9 + 2);
        badRules("if 1=1" + "or 1=1".repeat(39) + "or not (2=2) do drop end", 6 + 39 * 6 + 8);
        HandTongue h = new HandTongue();
        sign(h, "0");
        due("fault", h.fault(), 0);
        sign(h, "00000");
        due("fault of a good text", h.fault(), NONE);
        rules(h, "do x");
        h.image(0);
        h.place(0, 1, 1);
        due("fault stays", h.fault(), 3);
        h.back(0);
        due("fault is not kept in images", h.fault(), 3);
    }

    private static void settings() {
        promise = 7;
        HandTongue h = new HandTongue();
        due("place", h.place(0, 20, 0), 0);
        due("place", h.place(19, 0, 20), 0);
        due("distance", h.distance(1, 0, 19), 40);
        int[][] bad = {{-1, 0, 0}, {20, 0, 0}, {0, -1, 0}, {0, 21, 0}, {0, 0, -1}, {0, 0, 21}, {LEAST, MOST, 0}};
        for (int[] b : bad) {
            due("place refused", h.place(b[0], b[1], b[2]), -1);
            due("status", h.status(), -1);
        }
        due("places stay", h.distance(1, 0, 19), 40);
        due("place anew", h.place(0, 3, 4), 0);
        due("distance", h.distance(1, 0, 1), 7);
        due("distance of the same", h.distance(1, 0, 0), 0);
        promise = 8;
        for (int mark = 0; mark < 4; mark++) {
            due("weight", h.weight(mark, 20), 1);
            due("weight", h.weight(mark, 0), 20);
            due("weight", h.weight(mark, 21), -1);
            due("weight", h.weight(mark, -1), -1);
            due("weight", h.weight(mark, 3), 0);
        }
        due("weight", h.weight(4, 1), -1);
        due("weight", h.weight(-1, 1), -1);
        due("status", h.status(), -1);
        due("weight of 1 stays", h.weight(1, 1), 3);
        due("status", h.status(), 0);
        promise = 9;
        h = with("00000", "22222");
        due("prices", h.prices(0, 0), 0);
        due("prices", h.prices(1000, 1000), 0);
        due("cost of a sign", h.cost(0, 0, NONE, 0, 1, 0), 2000);
        due("prices", h.prices(1001, 0), -1);
        due("prices", h.prices(0, 1001), -1);
        due("prices", h.prices(-1, 0), -1);
        due("prices", h.prices(0, -1), -1);
        due("prices stay", h.cost(0, 0, NONE, 0, 1, 0), 2000);
    }

    private static void marks() {
        promise = 10;
        HandTongue h = with("00012p1t2o3/22222");
        due("states", h.mark(0, -1, 0), 2);
        int[] first = {5, 1, 2, 3};
        int[] second = {242, 1, 2, 3};
        for (int mark = 0; mark < 4; mark++) {
            due("first state", h.mark(0, 0, mark), first[mark]);
            due("second state", h.mark(0, 1, mark), second[mark]);
        }
        int[][] bad = {{1, 0, 0}, {-1, 0, 0}, {0, 2, 0}, {0, -2, 0}, {0, 0, 4}, {0, 0, -1}, {1, -1, 0}, {MOST, MOST, MOST}};
        for (int[] b : bad) {
            due("no mark", h.mark(b[0], b[1], b[2]), NONE);
        }
    }

    private static void surfaces() {
        promise = 11;
        HandTongue h = with("00000p1/11111p2/22222p3", "00012p7t3o4", "00001p9/00002p8");
        rules(h, "do drop end,drop begin,set end turn 5,set begin other 6");
        due("no seam", h.surface(NONE, 0, NONE, -1, 0), 3);
        due("behind", h.surface(1, 0, NONE, -1, 0), 2);
        due("behind: first", h.surface(1, 0, NONE, 0, 0), 121);
        due("behind: other", h.surface(1, 0, NONE, 0, 3), 6);
        due("behind: not the last", h.surface(1, 0, NONE, 1, 3), 0);
        due("ahead", h.surface(NONE, 0, 1, -1, 0), 2);
        due("ahead: last", h.surface(NONE, 0, 1, 1, 1), 2);
        due("ahead: turn", h.surface(NONE, 0, 1, 1, 2), 5);
        due("between", h.surface(1, 0, 1, -1, 0), 1);
        due("between: both", h.surface(1, 0, 1, 0, 2) * 10 + h.surface(1, 0, 1, 0, 3), 56);
        due("one is left", h.surface(0, 1, 0, -1, 0), 1);
        due("of two", h.surface(0, 2, 0, -1, 0), 1);
        due("behind itself", h.surface(0, 0, 0, 0, 1), 2);
        due("the book stays", h.mark(0, -1, 0), 3);
        rules(h, "if end place=3 and begin place=7 do set end place begin place,set begin place end place");
        due("end takes of the other", h.surface(NONE, 0, 1, 2, 1), 7);
        due("begin takes of the other", h.surface(0, 1, NONE, 0, 1), 3);
        due("the other way round", h.surface(NONE, 1, 0, 0, 1), 7);
        due("values of the book", h.surface(0, 1, 1, 0, 1), 3);
        rules(h, "do set end place 19;if end place=19 do drop end");
        due("tests look at the book", h.surface(NONE, 0, 1, -1, 0), 3);
        rules(h, "do drop end,set end place 19");
        due("set behind a drop", h.surface(NONE, 0, 1, 1, 1), 19);
        rules(h, "do set end turn end states;do set begin turn begin states;do set end other begin states");
        due("end states", h.surface(NONE, 0, 2, 2, 2), 3);
        due("begin states", h.surface(0, 2, NONE, 0, 2), 2);
        due("begin states of the other", h.surface(NONE, 0, 2, 2, 3), 2);
        rules(h, "do set end shape 243,set end place 20,set end turn 8,set end other 10");
        due("no such shape", h.surface(NONE, 0, 1, 2, 0), 242);
        due("no such place", h.surface(NONE, 0, 1, 2, 1), 3);
        due("no such turn", h.surface(NONE, 1, 0, 0, 2), 3);
        due("no such other", h.surface(NONE, 1, 0, 0, 3), 4);
        rules(h, "do set end shape 242,set end place 19,set end turn 7,set end other 9;do set end turn 1");
        due("shape", h.surface(NONE, 1, 0, 0, 0), 242);
        due("place", h.surface(NONE, 1, 0, 0, 1), 19);
        due("rules in order", h.surface(NONE, 1, 0, 0, 2), 1);
        due("other", h.surface(NONE, 1, 0, 0, 3), 9);
        rules(h, "do set begin turn 1;do set end turn 2");
        due("the seam ahead first", h.surface(0, 1, 0, 0, 2), 2);
        due("the seam ahead alone", h.surface(0, 1, NONE, 0, 2), 1);
        due("no b", h.surface(0, 3, 0, 0, 0), NONE);
        due("b NONE", h.surface(0, NONE, 0, -1, 0), NONE);
        due("no a", h.surface(3, 0, 0, 0, 0), NONE);
        due("a below NONE", h.surface(-2, 0, 0, 0, 0), NONE);
        due("no c", h.surface(0, 0, 3, 0, 0), NONE);
        due("c below NONE", h.surface(0, 0, -2, -1, 0), NONE);
        due("no state", h.surface(0, 1, 0, 1, 0), NONE);
        due("no mark", h.surface(0, 1, 0, 0, 4), NONE);
        due("mark below 0", h.surface(0, 1, 0, 0, -1), NONE);
    }

    private static void distances() {
        promise = 12;
        HandTongue h = new HandTongue();
        due("shapes", h.distance(0, 0, 242), 10);
        due("shapes", h.distance(0, 121, 5), 1 + 1 + 1 + 0 + 1);
        due("turns", h.distance(2, 7, 0), 1);
        due("turns", h.distance(2, 0, 4), 4);
        due("turns", h.distance(2, 6, 1), 3);
        due("others", h.distance(3, 9, 9), 0);
        due("others", h.distance(3, 9, 0), 1);
        h.weight(0, 7);
        due("without weight", h.distance(0, 0, 1), 1);
        int[] above = {243, 20, 8, 10};
        for (int mark = 0; mark < 4; mark++) {
            due("edge", h.distance(mark, above[mark] - 1, above[mark] - 1), 0);
            due("above", h.distance(mark, above[mark], 0), NONE);
            due("above", h.distance(mark, 0, above[mark]), NONE);
            due("below", h.distance(mark, -1, 0), NONE);
            due("below", h.distance(mark, 0, -1), NONE);
        }
        due("mark 4", h.distance(4, 0, 0), NONE);
        due("mark -1", h.distance(-1, 0, 0), NONE);
    }

    private static void sights() {
        promise = 13;
        HandTongue h = new HandTongue();
        int[][] bad = {
            {-1, 0, 0, 0, 0, 0, 0}, {2, 0, 0, 0, 0, 0, 0}, {0, -1, 0, 0, 0, 0, 0}, {0, 20, 0, 0, 0, 0, 0},
            {0, 0, -2, 0, 0, 0, 0}, {0, 0, 243, 0, 0, 0, 0}, {0, 0, 0, -2, 0, 0, 0}, {0, 0, 0, 20, 0, 0, 0},
            {0, 0, 0, 0, -2, 0, 0}, {0, 0, 0, 0, 8, 0, 0}, {0, 0, 0, 0, 0, -2, 0}, {0, 0, 0, 0, 0, 10, 0},
            {0, 0, 0, 0, 0, 0, -1}, {0, 0, 0, 0, 0, 0, 1000}};
        for (int[] b : bad) {
            due("sight refused", h.sight(b[0], b[1], b[2], b[3], b[4], b[5], b[6]), -1);
            due("status", h.status(), -1);
        }
        due("none told", h.count(2), 0);
        due("sight", h.sight(1, 19, 242, 19, 7, 9, 999), 1);
        due("nothing seen", h.sight(0, 19, NONE, NONE, NONE, NONE, 0), 2);
        promise = 15;
        int[] told = {242, 19, 7, 9};
        for (int mark = 0; mark < 4; mark++) {
            due("joined", h.joined(19, mark, 999), told[mark]);
            due("not yet known", h.joined(19, mark, 998), NONE);
        }
        due("told later", h.sight(1, 19, 1, NONE, 2, 3, 5), 3);
        due("of those known that told last", h.joined(19, 0, 999), 1);
        due("not seen in it", h.joined(19, 1, 999), NONE);
        due("other frame", h.joined(18, 0, 999), NONE);
        due("an older day told last", h.sight(1, 19, 2, 2, 2, 2, 0), 4);
        due("that", h.joined(19, 0, 999), 2);
        due("on its day", h.joined(19, 0, 0), 2);
        int[][] none = {{-1, 0, 0}, {20, 0, 0}, {0, -1, 0}, {0, 4, 0}, {0, 0, -1}, {0, 0, 1000}};
        for (int[] b : none) {
            due("joined refused", h.joined(b[0], b[1], b[2]), NONE);
        }
        promise = 13;
        for (int i = 5; i <= 120; i++) {
            due("sight " + i, h.sight(0, 0, 0, 0, 0, 0, 0), i);
        }
        due("no room", h.sight(0, 0, 0, 0, 0, 0, 0), -5);
        due("status", h.status(), -5);
        due("a number ahead of no room", h.sight(0, 20, 0, 0, 0, 0, 0), -1);
        due("sights", h.count(2), 120);
    }

    private static void trusts() {
        promise = 14;
        HandTongue h = new HandTongue();
        h.sight(0, 0, 1, 1, NONE, NONE, 0);
        h.sight(1, 0, 2, NONE, 2, NONE, 0);
        due("alike trust", h.joined(0, 0, 0), 1);
        due("one saw it", h.joined(0, 1, 0), 1);
        due("the other saw it", h.joined(0, 2, 0), 2);
        due("nobody", h.joined(0, 3, 0), NONE);
        due("trust", h.trust(1, 51), 50);
        due("greater trust", h.joined(0, 0, 0), 2);
        due("what one saw stays", h.joined(0, 1, 0), 1);
        due("trust", h.trust(0, 100), 50);
        due("greater trust", h.joined(0, 0, 0), 1);
        due("trust", h.trust(1, 100), 51);
        due("alike again", h.joined(0, 0, 0), 1);
        due("trust", h.trust(0, 0), 100);
        due("greater", h.joined(0, 0, 0), 2);
        int[][] bad = {{-1, 0}, {2, 0}, {0, -1}, {0, 101}, {MOST, LEAST}};
        for (int[] b : bad) {
            due("trust refused", h.trust(b[0], b[1]), -1);
            due("status", h.status(), -1);
        }
        due("trust stays", h.trust(0, 1), 0);
    }

    private static void clashes() {
        promise = 16;
        HandTongue h = new HandTongue();
        h.sight(0, 3, 1, 1, 1, NONE, 0);
        h.sight(1, 3, 2, 1, 2, 5, 4);
        h.sight(1, 7, 2, 1, 2, 5, 0);
        h.sight(0, 7, 2, 1, 2, 6, 0);
        due("clashes", h.clashes(0, 19, 4), 3);
        due("as known", h.clashes(0, 19, 3), 1);
        due("one frame", h.clashes(3, 3, 4), 2);
        due("none", h.clashes(4, 6, 4), 0);
        h.sight(1, 3, 1, 1, 1, 1, 4);
        due("told anew", h.clashes(0, 19, 4), 1);
        int[][] bad = {{-1, 0, 0}, {0, 20, 0}, {1, 0, 0}, {0, 0, -1}, {0, 0, 1000}, {20, 20, 0}};
        for (int[] b : bad) {
            due("clashes refused", h.clashes(b[0], b[1], b[2]), NONE);
        }
    }

    private static void readings() {
        promise = 17;
        HandTongue h = new HandTongue();
        due("no sign", h.read(0, 0, 0), -6);
        due("a number ahead", h.read(0, 20, 0), -1);
        sign(h, "00000/11111");
        due("no row has a reading", h.read(0, 0, 0), -6);
        due("best stays none", h.best(-1), NONE);
        due("one sign", h.read(0, 1, 0), 1);
        due("best", h.best(0), 0);
        due("still too few frames", h.read(3, 3, 0), -6);
        due("the latest stays", h.best(-1), 1);
        due("its frames too", h.led(1, 1), 1);
        int[][] bad = {{-1, 0, 0}, {0, 20, 0}, {1, 0, 0}, {0, 0, -1}, {0, 0, 1000}};
        for (int[] b : bad) {
            due("read refused", h.read(b[0], b[1], b[2]), -1);
            due("status", h.status(), -1);
        }
        due("the latest stays", h.best(-1), 1);
        h = with("00000", "00000", "22222");
        h.sight(0, 0, 0, NONE, NONE, NONE, 0);
        h.sight(0, 1, 242, NONE, NONE, NONE, 2);
        due("cost", h.read(0, 1, 2), 2);
        due("the first of alike rows", h.best(0) * 10 + h.best(1), 2);
        due("as known", h.read(0, 1, 1), 1);
        due("fewer signs", h.best(-1), 1);
        h.prices(5, 0);
        due("free signs", h.read(0, 1, 1), 0);
        due("the fewest of alike cost", h.best(-1), 1);
        h.prices(5, 10);
        due("of alike cost the fewest", h.read(0, 1, 2), 20);
        due("not two signs", h.best(-1), 1);
        due("the first", h.best(0), 0);
        h.weight(0, 20);
        due("weights", h.read(0, 1, 2), 20);
        due("two signs", h.best(-1), 2);
        promise = 18;
        due("no third", h.best(2), NONE);
        due("second", h.best(1), 2);
        due("below", h.best(-2), NONE);
        due("far below", h.best(LEAST), NONE);
        due("far above", h.best(MOST), NONE);
        HandTongue twenty = with("00000", "22222");
        for (int f = 0; f < 20; f++) {
            twenty.sight(f % 2, f, f % 2 * 242, NONE, NONE, NONE, 0);
        }
        due("twenty frames", twenty.read(0, 19, 0), 20);
        due("twenty signs", twenty.best(-1), 20);
        due("last", twenty.best(19), 1);
        due("led last", twenty.led(19, 0), 19);
        due("no more", twenty.best(20), NONE);
        promise = 17;
        h = with("00000p1", "22222p2", "11111p3");
        h.place(1, 0, 0);
        h.place(2, 9, 9);
        h.place(3, 20, 20);
        rules(h, "if end shape=242 and begin shape=121 do set begin place 1");
        h.sight(0, 0, 242, 2, NONE, NONE, 0);
        h.sight(0, 1, 121, 1, NONE, NONE, 0);
        due("surfaces count in a row", h.read(0, 1, 0), 2);
        due("row", h.best(0) * 10 + h.best(1), 12);
        rules(h, "");
        due("without rules", h.read(0, 1, 0) > 2 ? 1 : 0, 1);
    }

    /** A row of two signs with a frame between that is far from both. */
    private static HandTongue between(int frames) {
        HandTongue h = with("00000", "22222");
        h.weight(0, 20);
        h.sight(0, 0, 0, NONE, NONE, NONE, 0);
        for (int f = 1; f <= frames; f++) {
            h.sight(0, f, 121, NONE, NONE, NONE, 0);
        }
        h.sight(0, frames + 1, 242, NONE, NONE, NONE, 0);
        return h;
    }

    private static void slides() {
        promise = 17;
        for (int frames = 1; frames <= 3; frames++) {
            HandTongue h = between(frames);
            due("slides", h.read(0, frames + 1, 0), 2 + 5 * frames);
            for (int f = 1; f <= frames; f++) {
                due("slide's place", h.led(f, 0), 0);
                due("slide's state", h.led(f, 1), NONE);
            }
            due("behind it", h.led(frames + 1, 0), 1);
        }
        HandTongue h = between(4);
        due("three slides at most", h.cost(0, 1, NONE, 0, 5, 0), 2 + 15 + 100);
        h = between(1);
        h.prices(0, 1);
        due("free slides", h.read(0, 2, 0), 2);
        h.prices(1000, 0);
        due("dear slides", h.cost(0, 1, NONE, 0, 2, 0), 100);
        due("no slide ahead of the first", h.cost(1, NONE, NONE, 0, 2, 0), 300);
    }

    private static void led() {
        promise = 19;
        HandTongue h = with("00000/11111", "22222");
        int[] shapes = {0, 0, 121, 121, 242};
        for (int f = 0; f < 5; f++) {
            h.sight(1, 10 + f, shapes[f], NONE, NONE, NONE, 0);
        }
        due("read", h.read(10, 14, 0), 2);
        int[] places = {0, 0, 0, 0, 1};
        int[] states = {0, 0, 1, 1, 0};
        for (int f = 0; f < 5; f++) {
            due("place", h.led(10 + f, 0), places[f]);
            due("state", h.led(10 + f, 1), states[f]);
        }
        due("ahead of all", h.led(9, 0), NONE);
        due("behind all", h.led(15, 0), NONE);
        due("what 2", h.led(10, 2), NONE);
        due("what -1", h.led(10, -1), NONE);
        due("frame -1", h.led(-1, 0), NONE);
        due("frame LEAST", h.led(LEAST, 0), NONE);
        due("frame MOST", h.led(MOST, 1), NONE);
        due("nothing seen", h.read(0, 4, 0), 1);
        due("the row of fewest signs, the first", h.best(0), 0);
        for (int f = 0; f < 4; f++) {
            due("the least state as long as it costs no more", h.led(f, 1), 0);
        }
        due("the last state needs one", h.led(4, 1), 1);
        h = with("00000/11111/22222");
        h.prices(0, 0);
        h.sight(0, 3, 242, NONE, NONE, NONE, 0);
        due("read", h.read(0, 6, 0), 0);
        int[] three = {0, 0, 1, 2, 2, 2, 2};
        int[] many = new int[7];
        for (int f = 0; f < 7; f++) {
            many[f] = h.led(f, 1);
            due("state at " + f, many[f], three[f]);
        }
        h = with("00000", "22222");
        h.prices(0, 1);
        h.sight(0, 0, 0, NONE, NONE, NONE, 0);
        h.sight(0, 1, 121, NONE, NONE, NONE, 0);
        h.sight(0, 5, 242, NONE, NONE, NONE, 0);
        due("free slides", h.read(0, 5, 0), 2);
        int[] slidePlaces = {0, 0, 0, 0, 1, 1};
        int[] slideStates = {0, NONE, NONE, NONE, 0, 0};
        for (int f = 0; f < 6; f++) {
            due("slide place at " + f, h.led(f, 0), slidePlaces[f]);
            due("slide state at " + f, h.led(f, 1), slideStates[f]);
        }
        h.image(0);
        h.weight(0, 0);
        h.back(0);
        due("images leave it", h.led(1, 1), NONE);
    }

    private static void rivals() {
        promise = 20;
        HandTongue h = new HandTongue();
        due("no sign", h.rivals(0, 0, 0, 0), NONE);
        sign(h, "00000/11111");
        due("no reading", h.rivals(0, 0, 0, 0), NONE);
        due("best itself", h.rivals(0, 1, 0, 0), 1);
        due("one row alone", h.rivals(0, 1, 0, 200), 1);
        due("two rows", h.rivals(0, 3, 0, 1), 2);
        due("within less", h.rivals(0, 3, 0, 0), 1);
        due("no latest from it", h.best(-1), NONE);
        h = with("00000", "00000", "22222");
        h.sight(0, 0, 0, NONE, NONE, NONE, 0);
        due("alike ones", h.rivals(0, 0, 0, 0), 2);
        due("within 9", h.rivals(0, 0, 0, 9), 2);
        due("within 10", h.rivals(0, 0, 0, 10), 3);
        h.prices(0, 0);
        due("a thousand at most", h.rivals(0, 6, 0, 200), 1000);
        due("all rows of five frames", h.rivals(1, 5, 0, 0), 3 + 9 + 27 + 81 + 243);
        int[][] bad = {{-1, 0, 0, 0}, {0, 20, 0, 0}, {1, 0, 0, 0}, {0, 0, -1, 0}, {0, 0, 1000, 0}, {0, 0, 0, -1},
            {0, 0, 0, 201}};
        for (int[] b : bad) {
            due("rivals refused", h.rivals(b[0], b[1], b[2], b[3]), NONE);
        }
    }

    private static void costs() {
        promise = 21;
        HandTongue h = with("00000", "11111p1", "22222/22222t4o1");
        h.place(1, 1, 2);
        h.sight(0, 0, 0, 0, 0, 0, 0);
        h.sight(0, 1, 121, 0, 2, 1, 0);
        h.sight(0, 2, 242, NONE, 0, NONE, 0);
        h.sight(0, 3, 242, NONE, 7, 0, 5);
        due("one frame", h.cost(0, NONE, NONE, 0, 0, 0), 1);
        due("all marks", h.cost(1, NONE, NONE, 1, 1, 0), 1 + 3 + 2 + 1);
        due("two signs", h.cost(0, 1, NONE, 0, 1, 0), 2 + 6);
        due("three signs", h.cost(0, 1, 2, 0, 3, 0), 3 + 6);
        due("as known", h.cost(0, 1, 2, 0, 3, 5), 3 + 6 + 3 + 1);
        h.weight(0, 2);
        h.weight(1, 3);
        h.weight(2, 5);
        h.weight(3, 7);
        due("weights", h.cost(1, NONE, NONE, 1, 1, 0), 1 + 9 + 10 + 7);
        due("behind one no more are looked at", h.cost(0, NONE, 99, 0, 0, 0), 1);
        due("no first", h.cost(NONE, 0, 0, 0, 0, 0), -2);
        due("status", h.status(), -2);
        due("no second", h.cost(0, 3, 0, 0, 0, 0), -2);
        due("no third", h.cost(0, 0, 3, 0, 0, 0), -2);
        due("below NONE", h.cost(0, -2, 0, 0, 0, 0), -2);
        due("third below NONE", h.cost(0, 0, LEAST, 0, 0, 0), -2);
        due("a number ahead of no sign", h.cost(9, 0, 0, 1, 0, 0), -1);
        due("known", h.cost(0, 0, 0, 0, 0, 1000), -1);
        due("from", h.cost(0, 0, 0, -1, 0, 0), -1);
        due("to", h.cost(0, 0, 0, 0, 20, 0), -1);
        due("too few frames", h.cost(2, NONE, NONE, 0, 0, 0), -6);
        due("status", h.status(), -6);
        due("just enough", h.cost(2, 2, 2, 6, 11, 0), 3);
        due("one too few", h.cost(2, 2, 2, 6, 10, 0), -6);
        due("cost keeps no best", h.best(-1), NONE);
        rules(h, "do drop end");
        due("surfaces are shorter", h.cost(2, 2, 2, 6, 9, 0), 3);
    }

    private static void nearAndGap() {
        promise = 22;
        HandTongue h = with("00000p1/11111", "00000p1/11111t1", "00000p2/11111", "00000p1", "00000p1/11111");
        due("by a turn", h.near(0, 1), 6);
        due("the other way", h.near(1, 0), 6);
        due("by two places", h.near(0, 2), NONE);
        due("other number of states", h.near(0, 3), NONE);
        due("alike", h.near(0, 4), NONE);
        due("itself", h.near(0, 0), NONE);
        due("no sign", h.near(0, 5), NONE);
        due("no sign", h.near(-1, 0), NONE);
        due("no sign", h.near(MOST, LEAST), NONE);
        HandTongue n = with("00000", "00001", "00000p1", "00000t1", "00000o1", "00000/00000/00000/00000o9",
                "00000/00000/00000/00000");
        for (int mark = 0; mark < 4; mark++) {
            due("mark " + mark, n.near(0, mark + 1), mark);
        }
        due("last state", n.near(5, 6), 15);
        promise = 23;
        due("gap", n.gap(0, 1), 1);
        due("itself", n.gap(5, 5), 0);
        due("of many states", n.gap(5, 0), 1);
        due("no sign", n.gap(0, 7), NONE);
        due("no sign", n.gap(-1, 0), NONE);
        n.weight(3, 20);
        due("weighted", n.gap(0, 4), 20);
        HandTongue g = with("00000/22222", "00000/00000/11111/22222", "22222/00000", "00001/22221");
        due("goes on in one", g.gap(0, 1), 5);
        due("the other way", g.gap(1, 0), 5);
        due("first to first, last to last", g.gap(0, 2), 20);
        due("in both", g.gap(0, 3), 2);
        promise = 24;
        due("nearest", g.nearest(0), 3);
        due("nearest", g.nearest(1), 0);
        due("the lowest of alike ones", with("00000", "00001", "00010").nearest(0), 1);
        due("another one", with("00000", "00000").nearest(0), 1);
        due("alone", with("00000").nearest(0), NONE);
        due("no sign", g.nearest(4), NONE);
        due("no sign", g.nearest(-1), NONE);
    }

    private static void partings() {
        promise = 25;
        due("no sign", new HandTongue().parting(), 0);
        due("one sign", with("00000").parting(), 0);
        due("alike signs", with("00000", "00000").parting(), 0);
        due("the lowest bits", with("00000", "11111p1t1o1").parting(), 1);
        due("a turn", with("00000", "00000t1").parting(), 4);
        due("two marks", with("00000", "00000p1", "00000o1").parting(), 10);
        due("a state that is not there", with("00000", "00000/00000").parting(), 16);
        due("the last state", with("00000/00000/00000/00000", "00000/00000/00000/00000o1").parting(), 1 << 15);
        due("the fewest", with("00000p0t0", "00001p0t1", "00000p1t2", "00001p1t3").parting(), 4);
        due("lowest of two", with("00000", "00000p1o1", "00000t1o2", "00000p1t1o1").parting(), 6);
        due("alike ones do not count", with("00000", "00000", "00001").parting(), 1);
    }

    private static void likes() {
        promise = 26;
        HandTongue h = with("00000p1/11111p2", "11111p1", "11111p2t3o4");
        due("any", h.like(NONE, NONE, NONE, NONE), 7);
        due("shape", h.like(121, NONE, NONE, NONE), 7);
        due("place", h.like(NONE, 1, NONE, NONE), 3);
        due("in one state", h.like(0, 2, NONE, NONE), 0);
        due("shape and place", h.like(121, 2, NONE, NONE), 5);
        due("all", h.like(121, 2, 3, 4), 4);
        due("turn", h.like(NONE, NONE, 0, NONE), 3);
        due("other", h.like(NONE, NONE, NONE, 9), 0);
        int[][] bad = {{243, -1, -1, -1}, {-2, -1, -1, -1}, {-1, 20, -1, -1}, {-1, -2, -1, -1}, {-1, -1, 8, -1},
            {-1, -1, -2, -1}, {-1, -1, -1, 10}, {-1, -1, -1, -2}};
        for (int[] b : bad) {
            due("like refused", h.like(b[0], b[1], b[2], b[3]), NONE);
        }
    }

    private static void variants() {
        promise = 27;
        HandTongue h = with("00000", "00001", "00002", "00010", "00011");
        for (int i = 0; i < 4; i++) {
            due("variant", h.variant(3, 3 - i), i + 1);
        }
        due("no room", h.variant(3, 4), -5);
        due("status", h.status(), -5);
        due("twice ahead of no room", h.variant(3, 0), -4);
        due("no sign ahead of no room", h.variant(3, 5), -2);
        due("a number ahead", h.variant(4, 5), -1);
        due("concept -1", h.variant(-1, 0), -1);
        due("sign -1", h.variant(0, -1), -2);
        due("of another concept too", h.variant(0, 0), 1);
        due("status", h.status(), 0);
    }

    private static void uses() {
        promise = 28;
        HandTongue h = with("00000", "00001");
        h.variant(0, 0);
        due("use", h.use(0, 0, 2, 9), 0);
        due("use", h.use(0, 0, 2, 0), 0);
        due("no variant", h.use(0, 1, 0, 1), -2);
        due("no variant of that concept", h.use(1, 0, 0, 1), -2);
        due("no sign", h.use(0, 2, 0, 1), -2);
        int[][] bad = {{-1, 0, 0, 0}, {4, 0, 0, 0}, {0, 9, -1, 0}, {0, 0, 3, 0}, {0, 0, 0, -1}, {0, 9, 0, 10}};
        for (int[] b : bad) {
            due("use refused", h.use(b[0], b[1], b[2], b[3]), -1);
            due("status", h.status(), -1);
        }
        promise = 29;
        due("prior", h.prior(2, 100), 1);
        due("prior", h.prior(2, 1), 100);
        int[][] wrongPriors = {{-1, 1}, {3, 1}, {0, 0}, {0, 101}, {0, -1}};
        for (int[] b : wrongPriors) {
            due("prior refused", h.prior(b[0], b[1]), -1);
            due("status", h.status(), -1);
        }
        promise = 30;
        due("used", h.used(9, 3, 1, 999), 1);
        int[][] wrongUsed = {{-1, 0, 0, 0}, {10, 0, 9, 0}, {0, -1, 0, 0}, {0, 4, 0, 0}, {0, 0, 0, -1}, {0, 0, 0, 1000}};
        for (int[] b : wrongUsed) {
            due("used refused", h.used(b[0], b[1], b[2], b[3]), -1);
        }
        due("no sign", h.used(0, 0, 2, 0), -2);
        due("no sign", h.used(0, 0, -1, 0), -2);
        for (int i = 2; i <= 60; i++) {
            due("used " + i, h.used(0, 0, 0, i), i);
        }
        due("no room", h.used(0, 0, 0, 0), -5);
        due("no sign ahead of no room", h.used(0, 0, 2, 0), -2);
        due("told", h.count(3), 60);
        promise = 31;
        due("counts", h.counts(0, 0, 60), 0);
        due("on its day", h.counts(0, 0, 2), 0);
        due("not yet", h.counts(0, 0, 1), NONE);
        due("no variant", h.counts(9, 3, 999), NONE);
        h.variant(3, 1);
        due("a variant later", h.counts(9, 3, 999), 1);
        due("not yet", h.counts(9, 3, 998), NONE);
        due("without use", h.counts(9, 3, 999), 1);
        int[][] none = {{-1, 0, 0}, {10, 0, 0}, {0, -1, 0}, {0, 4, 0}, {0, 0, -1}, {0, 0, 1000}};
        for (int[] b : none) {
            due("counts refused", h.counts(b[0], b[1], b[2]), NONE);
        }
        h = with("00000", "00001");
        h.variant(0, 0);
        h.used(1, 0, 0, 0);
        due("concept 4 is not the next signer's first", h.counts(0, 4, 0), NONE);
        due("nor is -1 the last signer's last", h.counts(2, -4, 0), NONE);
        h.used(1, 0, 1, 5);
        due("ahead", h.counts(1, 0, 4), 0);
        due("one of no variant hides the one ahead", h.counts(1, 0, 5), NONE);
        h.used(1, 0, 0, 7);
        h.used(1, 0, 1, 6);
        due("told last, not known last", h.counts(1, 0, 7), NONE);
    }

    private static void share(HandTongue h, int region, long upper, long lower) {
        due("upper of region " + region, h.share(0, region, 0, 0), upper);
        due("lower of region " + region, h.share(0, region, 0, 1), lower);
    }

    private static void shares() {
        promise = 32;
        HandTongue h = with("00000", "00001", "00002", "00010");
        int[][] parts = {{6, 2, 0}, {2, 2, 4}};
        for (int sign = 0; sign < 2; sign++) {
            h.variant(0, sign);
            for (int region = 0; region < 3; region++) {
                h.use(0, sign, region, parts[sign][region]);
            }
        }
        share(h, 0, 1, 3);
        h.used(0, 0, 0, 0);
        share(h, 0, 3, 5);
        share(h, 1, 2, 5);
        share(h, 2, 0, 1);
        h.prior(1, 3);
        share(h, 0, 1, 3);
        h.variant(1, 3);
        h.used(0, 1, 3, 0);
        share(h, 0, 1, 3);
        h.use(1, 3, 0, 1);
        h.use(1, 3, 1, 9);
        share(h, 1, 2, 3);
        h.use(1, 3, 2, 5);
        share(h, 1, 2, 3);
        h.variant(1, 2);
        h.use(1, 2, 0, 9);
        share(h, 1, 20, 21);
        int[][] bad = {{-1, 0, 0, 0}, {10, 0, 0, 0}, {0, -1, 0, 0}, {0, 3, 0, 0}, {0, 0, -1, 0}, {0, 0, 1000, 0},
            {0, 0, 0, -1}, {0, 0, 0, 2}};
        for (int[] b : bad) {
            due("share refused", h.share(b[0], b[1], b[2], b[3]), NONE);
        }
        promise = 33;
        due("region", h.region(0, 0), 1);
        due("of nothing used", h.region(5, 0), 1);
        h.prior(1, 1);
        due("of alike ones the lowest", h.region(5, 0), 0);
        h.prior(2, 2);
        due("the greatest", h.region(5, 0), 2);
        due("signer -1", h.region(-1, 0), NONE);
        due("signer 10", h.region(10, 0), NONE);
        due("known -1", h.region(0, -1), NONE);
        due("known 1000", h.region(0, 1000), NONE);
        h.use(0, 0, 0, 0);
        h.use(0, 0, 1, 0);
        due("no odds", h.region(0, 0), NONE);
        promise = 32;
        due("no odds", h.share(0, 0, 0, 0), NONE);
        due("no odds", h.share(0, 0, 0, 1), NONE);
        greatShare();
    }

    /** The greatest numbers there can be: 4 concepts, 36 parts each, priors of 100 and near it. */
    private static void greatShare() {
        HandTongue h = with("00000", "00001", "00002", "00010");
        int[] priors = {100, 99, 97};
        for (int region = 0; region < 3; region++) {
            h.prior(region, priors[region]);
        }
        for (int concept = 0; concept < 4; concept++) {
            for (int sign = 0; sign < 4; sign++) {
                h.variant(concept, sign);
                for (int region = 0; region < 3; region++) {
                    h.use(concept, sign, region, sign == 3 && region > 0 ? 9 - region : 9);
                }
            }
            h.used(0, concept, 0, 0);
        }
        long first = 100L * pow(35 * 34);
        long second = 99L * pow(36 * 34);
        long third = 97L * pow(36 * 35);
        long all = first + second + third;
        long common = BigInteger.valueOf(first).gcd(BigInteger.valueOf(all)).longValue();
        due("great upper", h.share(0, 0, 0, 0), first / common);
        due("great lower", h.share(0, 0, 0, 1), all / common);
        due("region", h.region(0, 0), third > second && third > first ? 2 : second > first ? 1 : 0);
    }

    private static long pow(long n) {
        return n * n * n * n;
    }

    private static void images() {
        promise = 34;
        HandTongue h = with("00000p1/11111", "22222");
        due("image -1", h.image(-1), -1);
        due("image 2", h.image(2), -1);
        promise = 35;
        due("back -1", h.back(-1), -1);
        due("back 2", h.back(2), -1);
        due("back to one not kept", h.back(0), -2);
        due("status", h.status(), -2);
        rules(h, "do drop end;do drop begin");
        h.place(1, 3, 3);
        h.weight(0, 2);
        h.prices(7, 8);
        h.sight(0, 0, 242, 1, NONE, NONE, 0);
        h.trust(1, 70);
        h.variant(0, 0);
        h.use(0, 0, 0, 3);
        h.prior(0, 9);
        h.used(0, 0, 0, 0);
        h.read(0, 1, 0);
        promise = 34;
        due("image", h.image(1), 0);
        due("the other is not kept", h.back(0), -2);
        sign(h, "00002");
        rules(h, "do set end turn 1");
        h.place(1, 4, 4);
        h.weight(0, 3);
        h.prices(0, 0);
        h.sight(1, 0, 0, 0, 0, 0, 0);
        h.trust(1, 10);
        h.variant(0, 1);
        h.use(0, 0, 1, 5);
        h.prior(0, 1);
        h.used(0, 0, 1, 0);
        h.read(4, 8, 0);
        sign(h, "x");
        feed(h, "00000");
        promise = 35;
        due("back", h.back(1), 0);
        due("tape stays", h.count(4), 5);
        due("fault stays", h.fault(), 0);
        due("latest stays", h.led(8, 0), 0);
        due("signs", h.count(0), 2);
        due("no third sign", h.mark(2, -1, 0), NONE);
        due("rules", h.count(1), 2);
        due("rules act as then", h.surface(NONE, 0, 1, -1, 0), 1);
        due("sights", h.count(2), 1);
        due("joined", h.joined(0, 0, 0), 242);
        due("used", h.count(3), 1);
        due("counts", h.counts(0, 0, 0), 0);
        due("distance", h.distance(1, 1, 0), 6);
        due("cost", h.cost(1, NONE, NONE, 0, 0, 0), 8 + 6);
        due("weight", h.weight(0, 5), 2);
        due("trust", h.trust(1, 5), 70);
        due("prior", h.prior(0, 5), 9);
        due("variants", h.variant(0, 1), 2);
        due("a sign of the tape", h.sign(), 2);
        due("back again", h.back(1), 0);
        due("weight as then", h.weight(0, 1), 2);
        due("trust as then", h.trust(1, 1), 70);
        due("signs as then", h.count(0), 2);
        due("image 0", h.image(0), 0);
        due("image 1 stays", h.back(1), 0);
        due("weight of image 1", h.weight(0, 9), 2);
        due("back to image 0", h.back(0), 0);
        due("weight of image 0", h.weight(0, 9), 1);
        due("image over image", h.image(0), 0);
        due("weight", h.weight(0, 4), 9);
        due("back", h.back(0), 0);
        due("weight of the later image", h.weight(0, 4), 9);
        HandTongue empty = new HandTongue();
        empty.image(0);
        sign(empty, "00000");
        rules(empty, "do drop end");
        due("back to nothing", empty.back(0), 0);
        due("no signs", empty.count(0), 0);
        due("no rules", empty.count(1), 0);
        due("no reading", empty.read(0, 0, 0), -6);
        crossedImages();
    }

    /** Two images of unlike histories: what is told behind the one must not be seen in the other. */
    private static void crossedImages() {
        HandTongue h = new HandTongue();
        h.image(0);
        tell(h, "00000/11111", "do drop end", 1);
        h.image(1);
        h.back(0);
        due("back to nothing", h.count(0) + h.count(1) + h.count(2) + h.count(3), 0);
        tell(h, "22222p3", "if 1=2 do drop begin,drop end;do set end turn 2", 2);
        h.back(1);
        due("states", h.mark(0, -1, 0), 2);
        due("first shape", h.mark(0, 0, 0), 0);
        due("shape", h.mark(0, 1, 0), 121);
        due("rule", h.surface(NONE, 0, 0, -1, 0), 1);
        due("rule's turn", h.surface(NONE, 0, 0, 0, 2), 0);
        due("sight", h.joined(1, 0, 1), 1);
        due("sight's watcher and frame", h.joined(2, 0, 2), NONE);
        due("sight's day", h.joined(1, 0, 0), NONE);
        due("used", h.counts(1, 1, 1), 0);
        due("used's day", h.counts(1, 1, 0), NONE);
        due("no other used", h.counts(2, 1, 2), NONE);
        due("variant", h.variant(1, 0), -4);
        due("the other variant", h.variant(1, 1), -4);
        due("upper share", h.share(1, 2, 1, 0), 9);
        due("lower share", h.share(1, 2, 1, 1), 23);
        h.back(0);
        due("back to nothing", h.count(0) + h.count(1) + h.count(2) + h.count(3), 0);
        tell(h, "22222p3", "do drop begin", 2);
        due("states of the later history", h.mark(0, -1, 0), 1);
        due("one variant there", h.variant(1, 0), 2);
        due("nothing told of it", h.share(2, 0, 2, 1), 3);
    }

    private static void tell(HandTongue h, String sign, String rules, int n) {
        sign(h, sign);
        sign(h, sign);
        rules(h, rules);
        h.sight(n - 1, n, n, n, n, n, n);
        for (int variant = n - 1; variant < 2; variant++) {
            h.variant(1, variant);
            for (int region = 0; region < 3; region++) {
                h.use(1, variant, region, variant == 0 ? region + 1 : 1);
            }
        }
        h.use(1, 1, 0, 1);
        h.use(1, 1, 1, n);
        h.use(1, 1, 2, n * n * n);
        h.used(n, 1, n - 1, n);
    }

    private static void counts() {
        promise = 36;
        HandTongue h = with("00000", "00001");
        rules(h, "do drop end;do drop end;do drop end");
        for (int i = 0; i < 4; i++) {
            h.sight(0, i, 0, 0, 0, 0, 0);
        }
        for (int i = 0; i < 5; i++) {
            h.used(0, 0, 0, 0);
        }
        feed(h, "abcdef");
        for (int what = 0; what < 5; what++) {
            due("count(" + what + ")", h.count(what), what + 2);
        }
        due("count(5)", h.count(5), NONE);
        due("count(-1)", h.count(-1), NONE);
        due("count(LEAST)", h.count(LEAST), NONE);
    }

    private static void statuses() {
        promise = 37;
        HandTongue h = with("00000");
        h.place(-1, 0, 0);
        int refused = -1;
        due("place", h.status(), refused);
        h.mark(0, 0, 0);
        h.surface(9, 9, 9, 9, 9);
        h.distance(9, 9, 9);
        h.joined(0, 0, 0);
        h.clashes(5, 0, 0);
        h.best(9);
        h.led(99, 0);
        h.rivals(0, 0, 0, 0);
        h.near(0, 0);
        h.gap(0, 0);
        h.nearest(0);
        h.parting();
        h.like(0, 0, 0, 0);
        h.counts(0, 0, 0);
        h.share(0, 0, 0, 0);
        h.region(0, 0);
        h.count(0);
        h.fault();
        h.feed(0, 0, 0, 0, 0);
        h.end(0);
        due("others leave it", h.status(), refused);
        due("asking leaves it", h.status(), refused);
        int[] good = new int[15];
        good[0] = afterRefusal(h, sign(h, "00001"));
        good[1] = afterRefusal(h, rules(h, "do drop end"));
        good[2] = afterRefusal(h, h.place(0, 0, 0));
        good[3] = afterRefusal(h, h.weight(0, 0));
        good[4] = afterRefusal(h, h.prices(0, 0));
        good[5] = afterRefusal(h, h.sight(0, 0, 0, 0, 0, 0, 0));
        good[6] = afterRefusal(h, h.trust(0, 0));
        good[7] = afterRefusal(h, h.read(0, 0, 0));
        good[8] = afterRefusal(h, h.cost(0, NONE, NONE, 0, 0, 0));
        good[9] = afterRefusal(h, h.variant(0, 0));
        good[10] = afterRefusal(h, h.use(0, 0, 0, 0));
        good[11] = afterRefusal(h, h.prior(0, 1));
        good[12] = afterRefusal(h, h.used(0, 0, 0, 0));
        good[13] = afterRefusal(h, h.image(0));
        good[14] = afterRefusal(h, h.back(0));
        for (int i = 0; i < good.length; i++) {
            due("status of good call " + i, good[i], 0);
        }
        h.weight(-1, 0);
        due("weight", h.status(), -1);
        h.variant(0, 0);
        due("variant twice", h.status(), -4);
        h.used(0, 0, 7, 0);
        due("used of no sign", h.status(), -2);
        h.rules();
        due("rules", h.status(), 0);
        h.sign();
        due("sign of nothing", h.status(), -6);
        h.back(1);
        due("back to nothing", h.status(), -2);
        h.prices(-1, 0);
        due("prices", h.status(), -1);
    }

    /** The status that a call left, and then a refused call ahead of the next one. */
    private static int afterRefusal(HandTongue h, int answer) {
        int status = h.status();
        h.trust(9, 9);
        due("a refused call", h.status(), -1);
        return answer < 0 ? answer : status;
    }
}
