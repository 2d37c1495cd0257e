/** The bounds of TAPE, TOKENS and TEXTS: a sentence of the document after the other, the last that can be, the first that can't. */
public final class TextBoundsTest {
    private static final int NONE = Hand.NONE;
    private static final int BLANKS = 0x20202020;

    public static void main(String[] args) {
        newObject();
        tapeRoom();
        bytesInOrder();
        ends();
        signNumbers();
        signFull();
        blanks();
        letters();
        digits();
        singles();
        faultsOfSigns();
        bends();
        markNumbers();
        lastCounts();
        marksOfTheStateAhead();
        statesAtMost();
        rulesAtMost();
        factsAtMost();
        actsAtMost();
        within();
        ruleNumbers();
        ruleGrammar();
        testsAndActs();
        rulesTaken();
        faultNow();
        Due.finish("TextBoundsTest");
    }

    private static void feedBlanks(Hand h, int due) {
        Due.due("feed to " + due, h.feed(BLANKS, BLANKS, BLANKS, BLANKS, BLANKS), due);
    }

    /** A text that becomes a sign; the object is answered, so that its marks can be asked for. */
    private static Hand goodSign(String text) {
        Hand h = new Hand();
        h.weight(-1, 0);
        Due.due("sign of " + shown(text), h.sign(text), 0);
        Due.due("status of " + shown(text), h.status(), 0);
        Due.due("fault of " + shown(text), h.fault(), NONE);
        Due.due("tape behind " + shown(text), h.count(4), 0);
        Due.due("signs behind " + shown(text), h.count(0), 1);
        return h;
    }

    private static void badSign(String text, int fault) {
        Hand h = Hand.with("11111");
        Due.due("sign of " + shown(text), h.sign(text), -6);
        Due.due("status of " + shown(text), h.status(), -6);
        Due.due("fault of " + shown(text), h.fault(), fault);
        Due.due("tape behind " + shown(text), h.count(4), 0);
        Due.due("signs behind " + shown(text), h.count(0), 1);
        Due.due("no second sign of " + shown(text), h.mark(1, -1, 0), NONE);
        Due.due("next sign behind " + shown(text), h.sign("22222"), 1);
        Due.due("nothing left of " + shown(text), h.mark(1, -1, 0) * 1000 + h.mark(1, 0, 0), 1242);
    }

    private static void goodRules(String text, int rules) {
        Hand h = Hand.with("00000");
        h.weight(-1, 0);
        Due.due("rules of " + shown(text), h.rules(text), rules);
        Due.due("status of " + shown(text), h.status(), 0);
        Due.due("fault of " + shown(text), h.fault(), NONE);
        Due.due("tape behind " + shown(text), h.count(4), 0);
        Due.due("count behind " + shown(text), h.count(1), rules);
    }

    private static void badRules(String text, int fault) {
        Hand h = Hand.with("00000/11111/22222");
        h.rules("do drop end;do set end turn 5");
        Due.due("rules of " + shown(text), h.rules(text), -6);
        Due.due("status of " + shown(text), h.status(), -6);
        Due.due("fault of " + shown(text), h.fault(), fault);
        Due.due("tape behind " + shown(text), h.count(4), 0);
        Due.due("rules stay behind " + shown(text), h.count(1), 2);
        Due.due("they act behind " + shown(text), h.surface(0, 0, 0, -1, 0), 2);
        Due.due("both act behind " + shown(text), h.surface(0, 0, 0, 1, 2), 5);
    }

    private static String shown(String text) {
        String plain = text.replaceAll("[^ -~]", "?");
        return "\"" + (plain.length() > 60 ? plain.substring(0, 40) + ".." + plain.length() : plain) + "\"";
    }

    /** Whether a test is so shows in a state that the rule drops. */
    private static void holds(String test, boolean so) {
        Hand h = Hand.with("00012p4t5o6/11111p7t3o8", "22222p9t1o2");
        Due.due("rules of " + test, h.rules("if " + test + " do drop end"), 1);
        Due.due("so is " + test, h.surface(NONE, 0, 1, -1, 0), so ? 1 : 2);
    }

    private static void newObject() {
        Due.sentence("No SIGNS, RULES, SIGHTS.");
        Hand h = new Hand();
        for (int what = 0; what < 5; what++) {
            Due.due("count " + what, h.count(what), 0);
        }
        Due.due("no sign", h.mark(0, -1, 0), NONE);
        Due.due("no fault", h.fault(), NONE);
        Due.due("no refusal", h.status(), 0);
        Due.due("no rules of no text", h.rules(), 0);
        Due.due("no sign of no text", h.sign(), -6);
        Due.due("its fault", h.fault(), 0);
    }

    private static void tapeRoom() {
        Due.sentence("TEXTS lie on a TAPE of at most 400 bytes");
        Hand h = new Hand();
        for (int i = 1; i <= 20; i++) {
            feedBlanks(h, 20 * i);
        }
        Due.due("feed to 420", h.feed(BLANKS, BLANKS, BLANKS, BLANKS, BLANKS), NONE);
        Due.due("once more", h.feed(0, 0, 0, 0, 0), NONE);
        Due.due("bytes", h.count(4), 400);
        Due.due("fault of 400 blanks", h.sign() * 1000 + h.fault(), -6000 + 400);
        Due.due("the last bytes count", goodSign(" ".repeat(395) + "00012").mark(0, 0, 0), 5);
        badSign(" ".repeat(394) + "00012x", 399);
        badSign("00000p" + " ".repeat(394), 400);
        Due.due("a number of 394 digits", goodSign("00000p" + "0".repeat(392) + "19").mark(0, 0, 1), 19);
        badSign("00000p" + "0".repeat(392) + "20", 6);
        badSign("00000p" + "9".repeat(394), 6);
        badSign("a".repeat(400), 0);
        badSign("1".repeat(400), 0);
        goodRules("do drop end" + " ".repeat(389), 1);
        goodRules(" ".repeat(389) + "do drop end", 1);
        badRules("do drop end" + " ".repeat(388) + "x", 399);
        badRules("do drop end" + " ".repeat(388) + ";", 400);
        badRules("if " + "not ".repeat(99) + " ", 400);
        goodRules("if " + "not ".repeat(95) + "1=1do drop end", 1);
        Due.sentence("NONE, if there would be more than 400.");
        h = new Hand();
        h.lay("00012" + " ".repeat(395));
        for (int n = 399; n >= 380; n--) {
            Due.due("end(" + n + ")", h.end(n), n);
            Due.due("feed behind " + n, h.feed(-1, -1, -1, -1, -1), n == 380 ? 400 : NONE);
            Due.due("bytes behind " + n, h.count(4), n == 380 ? 400 : n);
        }
        Due.due("end(380)", h.end(380), 380);
        Due.due("what was there stays", h.sign(), 0);
        Due.due("its shape", h.mark(0, 0, 0), 5);
        Scene.same("feed refused", Scene::fill, one -> one.feed(-1, 0, 1, Hand.LEAST, Hand.MOST), one -> { });
    }

    private static void bytesInOrder() {
        Due.sentence("Twenty bytes come behind the TAPE, four of each number, the highest first: how many it has.");
        for (int at = 0; at < 20; at++) {
            for (int one : new int[] {'x', 0, 127, 128, 255}) {
                int[] five = {BLANKS, BLANKS, BLANKS, BLANKS, BLANKS};
                int shift = 24 - 8 * (at % 4);
                five[at / 4] = five[at / 4] & ~(255 << shift) | one << shift;
                Hand h = new Hand();
                h.feed(five[0], five[1], five[2], five[3], five[4]);
                Due.due("byte " + one + " at " + at, h.sign() * 1000 + h.fault(), -6000 + at);
                feedBlanks(h, 20);
                Due.due("behind the tape", h.feed(five[0], five[1], five[2], five[3], five[4]), 40);
                Due.due("byte " + one + " at " + (at + 20), h.rules() * 1000 + h.fault(), -6000 + at + 20);
            }
        }
        Hand h = new Hand();
        Due.due("\"20120p19t7o9/22222o1\"", h.feed(0x32303132, 0x30703139, 0x74376f39, 0x2f323232, 0x32326f31), 20);
        h.sign();
        int[] due = {177, 19, 7, 9, 242, 19, 7, 1};
        for (int i = 0; i < due.length; i++) {
            Due.due("mark " + i, h.mark(0, i / 4, i % 4), due[i]);
        }
        for (int n : new int[] {Hand.LEAST, Hand.MOST, -1, 0}) {
            h.end(0);
            Due.due("feed of " + n, h.feed(n, n, n, n, n), 20);
            Due.due("sign of it", h.sign() * 1000 + h.fault(), -6000);
        }
    }

    private static void ends() {
        Due.sentence("The TAPE has its first n bytes alone: n.");
        Hand h = new Hand();
        h.lay("00012/11111p3/22222t1");
        for (int n : new int[] {21, 20, 13, 5, 1, 0}) {
            h.end(0);
            h.lay("00012/11111p3/22222t1");
            Due.due("end(" + n + ")", h.end(n), n);
            Due.due("bytes", h.count(4), n);
            Due.due("one more", h.end(n + 1), NONE);
            Due.due("bytes stay", h.count(4), n);
            Due.due("feed behind them", h.feed(BLANKS, BLANKS, BLANKS, BLANKS, BLANKS), n + 20);
            Due.due("back to them", h.end(n), n);
        }
        h.lay("00012/11111p3/22222t1");
        h.end(13);
        h.sign();
        Due.due("states of the first bytes", h.mark(0, -1, 0), 2);
        Due.due("the last of them", h.mark(0, 1, 1), 3);
        Due.sentence("NONE, if it has not so many, or n is below 0.");
        Due.due("end(0) of nothing", h.end(0), 0);
        for (int n : new int[] {1, 2, 19, 20, 400, 401, -1, -2, -400, Hand.LEAST, Hand.LEAST + 1, Hand.MOST, Hand.MOST - 1}) {
            Due.due("end(" + n + ") of nothing", h.end(n), NONE);
        }
        h.lay("00012");
        for (int n : new int[] {6, 20, 400, -1, -5, Hand.LEAST, Hand.MOST}) {
            Due.due("end(" + n + ") of five", h.end(n), NONE);
            Due.due("bytes stay", h.count(4), 5);
        }
        Due.due("they stay as they were", h.sign(), 1);
    }

    private static void signNumbers() {
        Due.sentence("A SIGN has 1 .. 4 STATES; SIGNS 0 .. 9 (10 at most).");
        Hand h = new Hand();
        for (int sign = 0; sign < 10; sign++) {
            String text = "00000p" + sign + "/11111".repeat(sign % 4);
            Due.due("no sign yet", h.mark(sign, -1, 0), NONE);
            Due.due("sign " + text, h.sign(text), sign);
            Due.due("signs", h.count(0), sign + 1);
        }
        for (int sign = 0; sign < 10; sign++) {
            Due.due("states of " + sign, h.mark(sign, -1, 0), 1 + sign % 4);
            Due.due("place of " + sign, h.mark(sign, 0, 1), sign);
            Due.due("last place of " + sign, h.mark(sign, sign % 4, 1), sign);
            Due.due("no state behind those of " + sign, h.mark(sign, 1 + sign % 4, 1), NONE);
        }
        Due.due("no sign 10", h.mark(10, -1, 0), NONE);
        Due.due("no eleventh sign", h.sign("00000"), -5);
        Due.due("signs", h.count(0), 10);
        Due.due("no sign 10 still", h.mark(10, -1, 0), NONE);
        Due.due("sign 9 stays", h.mark(9, 0, 1), 9);
    }

    private static void signFull() {
        Due.sentence("The TAPE, which is empty then, becomes a SIGN: its number. -5 (ahead of reading it); -6.");
        String[] texts = {"", "   ", "00000", "x", "00000/", "0".repeat(400)};
        for (String text : texts) {
            Hand h = new Hand();
            Scene.fill(h);
            h.end(0);
            Due.due("sign " + shown(text), h.sign(text), -5);
            Due.due("status", h.status(), -5);
            Due.due("tape", h.count(4), 0);
            Due.due("no fault", h.fault(), NONE);
            Due.due("signs", h.count(0), 10);
            feedBlanks(h, 20);
        }
        Hand h = new Hand();
        Scene.fill(h);
        h.end(0);
        h.rules("do x");
        h.lay("abc");
        Due.due("sign", h.sign(), -5);
        Due.due("fault of the text read ahead of it", h.fault(), 3);
        Scene.same("sign refused by -5", Scene::fill, Hand::sign, one -> {
            one.sight(0, 0, 0, 0, 0, 0, 0);
            one.end(0);
        });
        Due.due("9 signs and a text that can't be", nineSigns().sign("x"), -6);
        Due.due("9 signs and one that can", nineSigns().sign("00000"), 9);
        Scene.same("sign refused by -6", Scene::furnish, one -> one.sign("x"), one -> {
            one.end(0);
            one.rules("       x");
        });
    }

    private static Hand nineSigns() {
        Hand h = new Hand();
        for (int i = 0; i < 9; i++) {
            h.sign("00000");
        }
        return h;
    }

    private static void blanks() {
        Due.sentence("any blanks (32) between TOKENS");
        Hand h = goodSign("   00012   p   3   t   4   o   5   /   11111   p   6   ");
        Due.due("marks", h.mark(0, 0, 1) * 100 + h.mark(0, 0, 2) * 10 + h.mark(0, 0, 3), 345);
        Due.due("states", h.mark(0, -1, 0), 2);
        h = goodSign("00012p3t4o5/11111p6");
        Due.due("without any", h.mark(0, 1, 1) * 100 + h.mark(0, 1, 2) * 10 + h.mark(0, 1, 3), 645);
        badSign("00 012", 0);
        badSign("00012p1 9", 8);
        badSign("00012p1 t 7 7", 12);
        goodRules("  if  (  1  =  1  )  do  drop  end  ,  drop  begin  ;  do  drop  end  ", 2);
        goodRules("if(1=1)do drop end,drop begin;do drop end", 2);
        goodRules("if not(end place<begin turn)and 1=1or 2>3do set end turn 3,drop end", 1);
        badRules("do dr op end", 3);
        badRules("d o drop end", 0);
        badRules("if 1 0=10 do drop end", 5);
        for (char other : new char[] {0, 9, 10, 11, 12, 13, 31, 33, 95, 127, 133, 160, 223, 255}) {
            badSign("00012" + other, 5);
            badSign(other + "00012", 0);
            badSign("00012 " + other + " p1", 6);
            badRules("do drop end" + other, 11);
            badRules("do" + other + "drop end", 2);
            badRules("" + other, 0);
        }
    }

    private static void letters() {
        Due.sentence("TOKENS (longest rows of letters a .. z, of digits, single other bytes)");
        badRules("do drop enda", 8);
        badRules("do drop endz", 8);
        badRules("do dropa end", 3);
        badRules("do zdrop end", 3);
        badRules("dodrop end", 0);
        badRules("dodropend", 0);
        badRules("do dropend", 3);
        badRules("if notnot 1=1 do drop end", 3);
        badRules("if 1=1 anddo drop end", 7);
        badRules("do drop end`", 11);
        badRules("do drop end{", 11);
        badRules("do drop endA", 11);
        badRules("do drop endZ", 11);
        badRules("Do drop end", 0);
        badRules("do Drop end", 3);
        badSign("00000pp1", 5);
        badSign("00000pt1", 5);
        badSign("00000ap1", 5);
        badSign("00000p1tz2", 7);
        badSign("00000P1", 5);
        badSign("00000T1", 5);
        badSign("00000O1", 5);
        badSign("00000q1", 5);
        badSign("00000a", 5);
        badSign("00000z", 5);
        for (String part : new String[] {"i", "d", "o", "e", "en", "ends", "beg", "beginn", "dr", "dropp", "se", "sett", "nott"}) {
            badRules(part, 0);
            badRules("do " + part, 3);
        }
        for (String mark : new String[] {"shap", "shapes", "plac", "places", "tur", "turns", "othe", "others", "state", "s"}) {
            badRules("do set end " + mark + " 1", 11);
            badRules("if end " + mark + "=1 do drop end", 7);
        }
    }

    private static void digits() {
        Due.sentence("longest rows of letters a .. z, of digits");
        badSign("000000", 0);
        badSign("000009", 0);
        badSign("00000/000000", 6);
        badSign("00000:", 5);
        badSign("00000.", 5);
        badSign("00000p1:", 7);
        badSign("00000p:", 6);
        badSign("00000p/", 6);
        badSign("00000p-1", 6);
        badSign("00000p+1", 6);
        badRules("if 1:1=1 do drop end", 4);
        badRules("if /=1 do drop end", 3);
        badRules("if -1=1 do drop end", 3);
        goodRules("if 09=9do drop end", 1);
        badRules("if 1=1 1 do drop end", 7);
    }

    private static void singles() {
        Due.sentence("single other bytes");
        badSign("00000//11111", 6);
        badSign("00000,11111", 5);
        badSign("00000;11111", 5);
        badRules("do drop end;;do drop end", 12);
        badRules("do drop end,,drop end", 12);
        badRules("if 1==1 do drop end", 5);
        badRules("if 1<=1 do drop end", 5);
        badRules("if 1<>1 do drop end", 5);
        badRules("if 1!1 do drop end", 4);
        badRules("if 1;1 do drop end", 4);
        badRules("if 1?1 do drop end", 4);
        badRules("if [1=1] do drop end", 3);
        badRules("if 'x'=1 do drop end", 3);
        badRules("if )1=1( do drop end", 3);
        badRules("if *1=1+ do drop end", 3);
        goodRules("if((1=1))do drop end", 1);
    }

    private static void faultsOfSigns() {
        Due.sentence("FAULT: the place of the first TOKEN that can't go on there (the end's: the TEXT's length).");
        badSign("", 0);
        badSign(" ", 1);
        badSign(" ".repeat(20), 20);
        badSign("00000p", 6);
        badSign("00000p   ", 9);
        badSign("00000/", 6);
        badSign("00000 / ", 8);
        badSign("00000p1t", 8);
        badSign("00000 x y", 6);
        badSign("x y", 0);
        badSign("00000p x y", 7);
        badSign("00000p1 x", 8);
        badSign("00000 11111", 6);
        badSign("00000p1p", 8);
        badSign("00000/p1", 6);
        badSign("p1 00000", 0);
        badSign("/00000", 0);
        badRules("do", 2);
        badRules("do ", 3);
        badRules("if", 2);
        badRules("if 1=1", 6);
        badRules("do drop", 7);
        badRules("do drop  ", 9);
        badRules("do drop end,", 12);
        badRules("do drop end;", 12);
        badRules("do drop end ; ", 14);
        badRules("do set end turn", 15);
        badRules("if (1=1", 7);
        badRules("if (", 4);
        badRules("if not", 6);
        badRules("x", 0);
    }

    private static void bends() {
        Due.sentence("BENDS: a row of just five digits 0 .. 2.");
        Due.due("least shape", goodSign("00000").mark(0, 0, 0), 0);
        Due.due("greatest shape", goodSign("22222").mark(0, 0, 0), 242);
        String[] bad = {"0", "00", "000", "0000", "000000", "0000000000", "30000", "03000", "00300", "00030", "00003", "90000",
            "00009", "33333", "a0000", "x", "4294967296", "-0000"};
        for (String text : bad) {
            badSign(text, 0);
            badSign("22222/" + text, 6);
        }
        badSign("0000a", 0);
        badSign("00000 0", 6);
        Due.sentence("SHAPE (0 .. 242: five fingers' bends 0 .. 2 as digits to the base 3, the first finger's the highest)");
        int[] powers = {81, 27, 9, 3, 1};
        for (int finger = 0; finger < 5; finger++) {
            for (int bend = 0; bend < 3; bend++) {
                StringBuilder text = new StringBuilder("00000");
                text.setCharAt(finger, (char) ('0' + bend));
                Due.due("shape", goodSign(text.toString()).mark(0, 0, 0), bend * powers[finger]);
            }
        }
    }

    private static void markNumbers() {
        Due.sentence("NUMBERS to 19 of \"p\" (PLACE), to 7 of \"t\" (TURN), to 9 of \"o\" (OTHER)");
        String letters = "pto";
        int[] most = {19, 7, 9};
        for (int i = 0; i < 3; i++) {
            String ahead = "00000" + letters.charAt(i);
            for (int value = 0; value <= most[i]; value++) {
                Due.due("value", goodSign(ahead + value).mark(0, 0, i + 1), value);
                Due.due("in a later state", goodSign("11111/" + ahead + value).mark(0, 1, i + 1), value);
            }
            for (int value = most[i] + 1; value <= most[i] + 12; value++) {
                badSign(ahead + value, 6);
                badSign("11111/" + ahead + value, 12);
            }
            String[] great = {"99", "100", "255", "256", "999", "1000", "1001", "65536", "2147483647", "2147483648", "4294967295",
                "4294967296", "4294967297", "9223372036854775808", "18446744073709551616", "18446744073709551617"};
            for (String value : great) {
                badSign(ahead + value, 6);
            }
            Due.due("zeros ahead", goodSign(ahead + "000000000000000000003").mark(0, 0, i + 1), 3);
        }
    }

    private static void lastCounts() {
        Due.sentence("of each the last counts");
        Hand h = goodSign("00000p1p2t1t2o1o2p19t7o9");
        Due.due("place", h.mark(0, 0, 1), 19);
        Due.due("turn", h.mark(0, 0, 2), 7);
        Due.due("other", h.mark(0, 0, 3), 9);
        h = goodSign("00000p19t7o9p0t0o0");
        Due.due("place, turn, other of 0", h.mark(0, 0, 1) + h.mark(0, 0, 2) + h.mark(0, 0, 3), 0);
        h = goodSign("00000" + "p1".repeat(190) + "p2");
        Due.due("the 191st place", h.mark(0, 0, 1), 2);
        badSign("00000p20p1", 6);
        badSign("00000p1p20", 8);
        badSign("00000t8t1", 6);
        badSign("00000o10o1", 6);
    }

    private static void marksOfTheStateAhead() {
        Due.sentence("without it the MARK of the STATE ahead, 0 in the first one.");
        Hand h = goodSign("11111/11111p19/11111t7/11111o9");
        int[] due = {0, 0, 0, 19, 0, 0, 19, 7, 0, 19, 7, 9};
        for (int i = 0; i < due.length; i++) {
            Due.due("mark " + i, h.mark(0, i / 3, 1 + i % 3), due[i]);
        }
        h = goodSign("11111p19t7o9/00000/22222p0/00001t0o0");
        int[] later = {19, 7, 9, 19, 7, 9, 0, 7, 9, 0, 0, 0};
        for (int i = 0; i < later.length; i++) {
            Due.due("later mark " + i, h.mark(0, i / 3, 1 + i % 3), later[i]);
        }
        h.sign("11111");
        Due.due("nothing of another sign", h.mark(1, 0, 1) + h.mark(1, 0, 2) + h.mark(1, 0, 3), 0);
        h.sign("11111p5t5o5/x");
        h.sign("11111");
        Due.due("nothing of a sign that could not be", h.mark(2, 0, 1) + h.mark(2, 0, 2) + h.mark(2, 0, 3), 0);
    }

    private static void statesAtMost() {
        Due.sentence("4 STATES at most (FAULT at the 5th's first TOKEN).");
        for (int states = 1; states <= 4; states++) {
            String text = "00001" + "/00001".repeat(states - 1);
            Due.due("states", goodSign(text).mark(0, -1, 0), states);
            Due.due("states with blanks", goodSign(text + "   ").mark(0, -1, 0), states);
        }
        String four = "00001/00001/00001/00001";
        badSign(four + "/00001", 24);
        badSign(four + "/   00001p1", 27);
        badSign(four + " / 00001/00001", 26);
        badSign(four + "/", 24);
        badSign(four + "/ ", 25);
        badSign(four + "/x", 24);
        badSign(four + "/00001x", 24);
        badSign(four + "p20/00001", 24);
        badSign(four + "x/00001", 23);
    }

    private static void rulesAtMost() {
        Due.sentence("RULE {\";\" RULE}, 12 at most (FAULT at the 13th's first TOKEN).");
        String rule = "do drop end;";
        for (int rules = 1; rules <= 12; rules++) {
            goodRules(rule.repeat(rules - 1) + "do drop end", rules);
        }
        badRules(rule.repeat(12) + "do drop end", 144);
        badRules(rule.repeat(12) + "  do drop end", 146);
        badRules(rule.repeat(12) + "if 1=1 do drop end", 144);
        badRules(rule.repeat(12), 144);
        badRules(rule.repeat(12) + "x", 144);
        badRules(rule.repeat(13) + "do drop end", 144);
        badRules(rule.repeat(11) + "do drop end x", 144);
        Hand h = Hand.with("00000", "11111");
        StringBuilder text = new StringBuilder();
        for (int i = 0; i < 12; i++) {
            text.append(i > 0 ? ";" : "").append("if end place=").append(i).append("do set end other 9");
        }
        Due.due("12 rules of tests", h.rules(text.toString()), 12);
        for (int i = 0; i < 12; i++) {
            Hand one = Hand.with("00000p" + i, "11111");
            one.rules(text.toString());
            Due.due("rule " + i + " acts", one.surface(NONE, 0, 1, 0, 3), 9);
        }
        Due.due("none is for 12", aheadOfOne("00000p12", text.toString()), 0);
    }

    private static int aheadOfOne(String sign, String rules) {
        Hand h = Hand.with(sign, "11111");
        h.rules(rules);
        return h.surface(NONE, 0, 1, 0, 3);
    }

    private static void factsAtMost() {
        Due.sentence("40 FACTS with \"<\", \">\", \"=\" (at the 41st's first TOKEN)");
        String[] marks = {"<", ">", "="};
        for (String mark : marks) {
            String first = "if 1" + mark + "1";
            String more = " or 1" + mark + "1";
            goodRules(first + more.repeat(39) + " do drop end", 1);
            badRules(first + more.repeat(40) + " do drop end", 6 + 39 * 7 + 4);
            goodRules(first + more.repeat(19) + " do drop end;" + first + more.repeat(19) + " do drop end", 2);
            badRules(first + more.repeat(19) + " do drop end;" + first + more.repeat(20) + " do drop end", 152 + 6 + 19 * 7 + 4);
        }
        String forty = "if 1=1" + "or 1=1".repeat(39);
        badRules(forty + "and 1=1do drop end", 240 + 4);
        badRules(forty + "or not 1=1do drop end", 240 + 7);
        badRules(forty + "or (1=1)do drop end", 240 + 4);
        badRules(forty + "or not(not 1=1)do drop end", 240 + 11);
        badRules(forty + "or end place=1 do drop end", 240 + 3);
        badRules(forty + "or begin states=1 do drop end", 240 + 3);
        badRules(forty + "or x", 240 + 3);
        badRules(forty + "or", 240 + 2);
        badRules(forty + "or 1x", 240 + 3);
        badRules(forty + "or)", 240 + 2);
        badRules(forty + "x 1=1 do drop end", 240);
        goodRules(forty + "do drop end;do drop begin", 2);
        badRules(forty + "do drop end;if 1=1 do drop begin", 240 + 12 + 3);
        goodRules("if ((1=1" + "or 1=1".repeat(19) + "))and not(2=2" + "or 2=2".repeat(19) + ")do drop end", 1);
        Hand h = Hand.with("00000", "11111");
        h.rules("if 1=2" + "or 1=2".repeat(38) + "or 1=1 do set end other 9");
        Due.due("the 40th counts", h.surface(NONE, 0, 1, 0, 3), 9);
        h.rules("if 1=1" + "and 1=1".repeat(38) + "and 1=2 do set end other 9");
        Due.due("the 40th counts against it", h.surface(NONE, 0, 1, 0, 3), 0);
        for (int i = 0; i < 12; i++) {
            Due.due("40 facts, again and again", h.rules("if 1=" + i % 2 + "and 1=1".repeat(39) + "do set end other 9"), 1);
            Due.due("they count", h.surface(NONE, 0, 1, 0, 3), i % 2 == 0 ? 0 : 9);
        }
        Due.due("a text that was refused leaves no facts behind", h.rules(forty + "or 1=1do drop end"), -6);
        Due.due("40 again", h.rules(forty + "do drop end"), 1);
    }

    private static void actsAtMost() {
        Due.sentence("40 ACTS (at the 41st's)");
        String forty = "do drop end" + ",drop end".repeat(39);
        goodRules(forty, 1);
        badRules(forty + ",drop end", 362 + 1);
        badRules(forty + ", drop end", 362 + 2);
        badRules(forty + ",", 362 + 1);
        badRules(forty + ",x", 362 + 1);
        badRules(forty + ",set end turn 1", 362 + 1);
        badRules(forty + ";do drop end", 362 + 4);
        badRules(forty + ";do  set end turn 1", 362 + 5);
        badRules(forty + ";if 1=1do drop end", 362 + 10);
        badRules(forty + ";do", 362 + 3);
        badRules(forty + ";x", 362 + 1);
        goodRules("do drop end" + ",drop end".repeat(28) + ";do drop end".repeat(11), 12);
        badRules("do drop end" + ",drop end".repeat(29) + ";do drop end".repeat(11), 11 + 29 * 9 + 10 * 12 + 4);
        Hand h = Hand.with("00000", "11111");
        h.rules("do drop end" + ",drop end".repeat(38) + ",set end turn 7");
        Due.due("the 40th acts", h.surface(NONE, 0, 1, 0, 2), 7);
        Due.due("a text that was refused leaves no acts behind", h.rules(forty + ",drop end"), -6);
        Due.due("40 again", h.rules(forty), 1);
    }

    private static void within() {
        Due.sentence("6 \"(\" within one another (at the 7th)");
        for (int deep = 0; deep <= 6; deep++) {
            goodRules("if " + "(".repeat(deep) + "1=1" + ")".repeat(deep) + " do drop end", 1);
        }
        badRules("if (((((((1=1))))))) do drop end", 9);
        badRules("if ((((((((1=1)))))))) do drop end", 9);
        badRules("if ( ( ( ( ( (  (1=1)))))))do drop end", 16);
        badRules("if ((((((1=1 and (2=2))))))) do drop end", 17);
        badRules("if ((((((not(1=1))))))) do drop end", 12);
        badRules("if not(not(not(not(not(not(not(1=1))))))) do drop end", 30);
        badRules("if (((((((", 9);
        goodRules("if not(not(not(not(not(not(not 1=1)))))) do drop end", 1);
        goodRules("if ((((((1=1))))))and((((((2=2))))))or((((((3=3))))))do drop end", 1);
        goodRules("if ((((((1=1)and(1=1)))or(2=2))))do drop end", 1);
        goodRules("if ((((((1=1)))))) do drop end;if ((((((1=1)))))) do drop end", 2);
        badRules("if ((((((1=1)))))) do drop end;if (((((((1=1))))))) do drop end", 40);
        badRules("if ((((((1=1))))) do drop end", 18);
        badRules("if ((((((1=1))))))) do drop end", 18);
        holds("((((((1=1))))))", true);
        holds("not((((((1=1))))))", false);
        holds("((((((1=2)))))) or (1=2 or (1=2 or (1=2 or (1=2 or (1=2 or (1=1))))))", true);
        holds("(1=1 and (1=1 and (1=1 and (1=1 and (1=1 and (1=1 and 1=2))))))", false);
        holds("1=2 or 1=1 and (1=2 or 1=1 and (1=2 or 1=1 and (1=2 or 1=1 and (1=2 or 1=1 and (1=2 or 1=1 and 1=1)))))", true);
        holds("1=2 or 1=1 and (1=2 or 1=1 and (1=2 or 1=1 and (1=2 or 1=1 and (1=2 or 1=1 and (1=2 or 1=1 and 2=1)))))", false);
    }

    private static void ruleNumbers() {
        Due.sentence("NUMBERS to 999.");
        goodRules("if 999=0 do drop end", 1);
        goodRules("if 0=999 do set end shape 999", 1);
        goodRules("if 0000000000999=000 do set end shape 000000000000000000000999", 1);
        for (String great : new String[] {"1000", "1001", "1010", "1023", "1024", "9999", "65536", "2147483648", "4294967296",
            "4294967297", "18446744073709551616", "9".repeat(300)}) {
            badRules("if " + great + "=1 do drop end", 3);
            badRules("if 1=" + great + " do drop end", 5);
            badRules("do set end shape " + great, 17);
            badRules("do drop end,set begin turn " + great, 27);
        }
        holds("999=999", true);
        holds("998=999", false);
        holds("998<999", true);
        holds("999>998", true);
        holds("999<999", false);
        holds("0<1", true);
        holds("0=0", true);
        holds("0>0", false);
        holds("007=7", true);
    }

    private static void ruleGrammar() {
        Due.sentence("RULE: [\"if\" TEST] \"do\" ACT {\",\" ACT}. TEST: BOTH {\"or\" BOTH}. BOTH: FACT {\"and\" FACT}."
                + " FACT: \"not\" FACT | \"(\" TEST \")\" | VALUE (\"<\" | \">\" | \"=\") VALUE. ACT: \"set\" SIDE MARK VALUE"
                + " | \"drop\" SIDE. VALUE: NUMBER | SIDE MARK | SIDE \"states\". SIDE: \"end\" | \"begin\"."
                + " MARK: \"shape\" | \"place\" | \"turn\" | \"other\".");
        for (String side : new String[] {"end", "begin"}) {
            for (String mark : new String[] {"shape", "place", "turn", "other"}) {
                goodRules("if " + side + " " + mark + "=" + side + " " + mark + " do set " + side + " " + mark + " " + side + " "
                        + mark + ",drop " + side, 1);
            }
            goodRules("if " + side + " states>" + side + " states do set " + side + " turn " + side + " states", 1);
        }
        badRules("if do drop end", 3);
        badRules("if 1=1 drop end", 7);
        badRules("if 1 do drop end", 5);
        badRules("if 1= do drop end", 6);
        badRules("if =1 do drop end", 3);
        badRules("if 1=1 or do drop end", 10);
        badRules("if 1=1 and do drop end", 11);
        badRules("if 1=1 and or 1=1 do drop end", 11);
        badRules("if or 1=1 do drop end", 3);
        badRules("if 1=1 not 1=1 do drop end", 7);
        badRules("if () do drop end", 4);
        badRules("if (1=1)(1=1) do drop end", 8);
        badRules("if (1)=1 do drop end", 5);
        badRules("if 1=(1) do drop end", 5);
        badRules("if not (1=1 do drop end", 12);
        badRules("if 1=1) do drop end", 6);
        badRules("if 1=1=1 do drop end", 6);
        badRules("if end=1 do drop end", 6);
        badRules("if end 1=1 do drop end", 7);
        badRules("if place=1 do drop end", 3);
        badRules("if end end=1 do drop end", 7);
        badRules("if 1=begin do drop end", 11);
        badRules("if 1=begin drop do drop end", 11);
        badRules("if end place begin place do drop end", 13);
        badRules("if if 1=1 do drop end", 3);
        badRules("do if 1=1 drop end", 3);
        badRules("do do drop end", 3);
        badRules("do set place 1", 7);
        badRules("do set end 1", 11);
        badRules("do set end states 1", 11);
        badRules("do set end place", 16);
        badRules("do set end place,drop end", 16);
        badRules("do set end place end", 20);
        badRules("do set end place end 1", 21);
        badRules("do set end place place", 17);
        badRules("do set end place 1 2", 19);
        badRules("do set end place=1", 16);
        badRules("do set end place end drop", 21);
        badRules("do end", 3);
        badRules("do begin", 3);
        badRules("do end place 1", 3);
        badRules("do drop end,end", 12);
        badRules("do drop end,begin place 1", 12);
        badRules("do set", 6);
        badRules("do set end", 10);
        badRules("do set end ", 11);
        badRules("do set end,drop end", 10);
        badRules("do set begin;do drop end", 12);
        badRules("do set drop end", 7);
        badRules("do drop set end place 1", 8);
        badRules("do drop 1", 8);
        badRules("do drop end place", 12);
        badRules("do drop end begin", 12);
        badRules("do drop end drop end", 12);
        badRules("do drop end if 1=1", 12);
        badRules("do drop end do drop end", 12);
        badRules("do drop end,do drop end", 12);
        badRules("do drop end;drop end", 12);
        badRules("do ,drop end", 3);
        badRules(";do drop end", 0);
        badRules(",", 0);
        badRules("end", 0);
        badRules("(1=1)", 0);
    }

    private static void testsAndActs() {
        Due.sentence("TEST: BOTH {\"or\" BOTH}. BOTH: FACT {\"and\" FACT}.");
        boolean[] truth = {false, true};
        for (boolean a : truth) {
            for (boolean b : truth) {
                for (boolean c : truth) {
                    String one = a ? "1=1" : "1=2";
                    String two = b ? "1<2" : "2<1";
                    String three = c ? "2>1" : "1>2";
                    holds(one + " or " + two + " or " + three, a || b || c);
                    holds(one + " and " + two + " and " + three, a && b && c);
                    holds(one + " or " + two + " and " + three, a || b && c);
                    holds(one + " and " + two + " or " + three, a && b || c);
                    holds("(" + one + " or " + two + ") and " + three, (a || b) && c);
                    holds(one + " and (" + two + " or " + three + ")", a && (b || c));
                    holds("not " + one + " and " + two + " or not " + three, !a && b || !c);
                    holds("not (" + one + " and " + two + ") and " + three, !(a && b) && c);
                    holds("not not " + one + " or not not not " + two + " and " + three, a || !b && c);
                }
            }
        }
        Due.sentence("\"end\" the last STATE of the SIGN ahead of the seam, \"begin\" the first STATE of that behind it,"
                + " \"states\" how many STATES that SIGN has.");
        String[] so = {"end shape=121", "end place=7", "end turn=3", "end other=8", "end states=2", "begin shape=242",
            "begin place=9", "begin turn=1", "begin other=2", "begin states=1", "end shape<begin shape", "end turn>begin turn"};
        for (String test : so) {
            holds(test, true);
            holds("not " + test, false);
        }
        holds("end shape=5 or end place=4 or end turn=5 or end other=6", false);
    }

    private static void rulesTaken() {
        Due.sentence("The TAPE, which is empty then, becomes the RULES: how many (blanks alone: none). -6: they stay.");
        goodRules("", 0);
        goodRules(" ", 0);
        goodRules(" ".repeat(400), 0);
        Hand h = Hand.with("00000/11111");
        h.rules("do drop end;do drop begin");
        Due.due("two", h.count(1), 2);
        Due.due("less than ahead", h.rules("do drop begin"), 1);
        Due.due("the one alone acts", h.surface(NONE, 0, 0, -1, 0), 2);
        Due.due("it acts", h.surface(0, 0, NONE, -1, 0), 1);
        Due.due("blanks alone", h.rules("    "), 0);
        Due.due("none", h.count(1), 0);
        Due.due("none acts", h.surface(0, 0, 0, -1, 0), 2);
        Scene.same("rules refused by -6", Scene::furnish, one -> one.rules("/"), one -> {
            one.end(0);
            one.sign("x");
        });
    }

    private static void faultNow() {
        Due.sentence("FAULT of the latest sign(), rules() that read a TEXT: its place; NONE without.");
        Hand h = new Hand();
        Due.due("without", h.fault(), NONE);
        h.feed(0, 0, 0, 0, 0);
        Due.due("a tape alone", h.fault(), NONE);
        h.end(0);
        h.sign("00000x");
        Due.due("a sign's", h.fault(), 5);
        Due.due("asked again", h.fault(), 5);
        h.feed(0, 0, 0, 0, 0);
        h.end(0);
        h.place(0, 0, 0);
        h.read(0, 0, 0);
        Due.due("other calls leave it", h.fault(), 5);
        h.rules("do");
        Due.due("a rule's", h.fault(), 2);
        h.rules("do drop end");
        Due.due("none of good rules", h.fault(), NONE);
        h.rules("x");
        Due.due("a rule's", h.fault(), 0);
        h.sign("00000");
        Due.due("none of a good sign", h.fault(), NONE);
        h.sign("");
        Due.due("of nothing", h.fault(), 0);
        h.rules("");
        Due.due("rules of nothing", h.fault(), NONE);
    }
}
