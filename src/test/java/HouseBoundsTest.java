import java.util.List;

/** The bounds of IMAGES, counts, refusals and their order, the status, and the 512 calls of an object. */
public final class HouseBoundsTest {
    private static final int NONE = Hand.NONE;

    public static void main(String[] args) {
        imagesAtFirst();
        imagesKeep();
        imagesCrossed();
        imagesKeepNot();
        imagesStay();
        imagesOfBounds();
        imageLeaves();
        imageRefusals();
        counts();
        order();
        statusOfEach();
        statusLeft();
        answersOfStatus();
        lastCall();
        Due.finish("HouseBoundsTest");
    }

    private static void imagesAtFirst() {
        Due.sentence("BACK to IMAGE k: 0. -1; -2 it was not kept.");
        for (int k = 0; k < 2; k++) {
            Hand h = new Hand();
            Due.due("back to one not kept", h.back(k), -2);
            Due.due("status", h.status(), -2);
            Due.due("image", h.image(1 - k), 0);
            Due.due("the other is not kept", h.back(k), -2);
            Due.due("this one is", h.back(1 - k), 0);
            Due.due("status", h.status(), 0);
            Due.due("back keeps none", h.back(k), -2);
            Due.due("image", h.image(k), 0);
            Due.due("kept now", h.back(k), 0);
        }
        Scene.same("back refused by -2", Scene::furnish, one -> one.back(1), one -> one.used(0, 0, 9, 0));
        Scene.same("image refused", Scene::furnish, one -> one.image(2), one -> one.weight(0, 21));
        Scene.same("back refused by -1", Scene::furnish, one -> one.back(-1), one -> one.weight(0, 21));
    }

    private static void imagesKeep() {
        Due.sentence("BACK to one all is as it was then (IMAGES stay).");
        for (int k = 0; k < 2; k++) {
            int image = k;
            Scene.same("back to image " + k, one -> {
                Scene.furnish(one);
                one.image(0);
                one.image(1);
            }, one -> {
                changeAll(one);
                one.back(image);
            }, one -> one.image(0));
        }
    }

    /** All that an image keeps becomes other; the tape, the fault and the latest best stay. */
    private static void changeAll(Hand h) {
        for (int place = 0; place < 20; place++) {
            h.place(place, place, 20 - place);
        }
        for (int mark = 0; mark < 4; mark++) {
            h.weight(mark, 11 + mark);
        }
        h.prices(500, 600);
        for (int i = 0; i < 20; i++) {
            h.sight(i % 2, i, 3 * i, i, i % 8, i % 10, i % 5);
        }
        h.trust(0, 98);
        h.trust(1, 97);
        for (int concept = 0; concept < 4; concept++) {
            h.variant(concept, 0);
            h.variant(concept, 5);
            for (int sign = 0; sign < 6; sign++) {
                h.use(concept, sign, sign % 3, 8);
            }
            h.used(concept, concept, 5, 1);
        }
        for (int region = 0; region < 3; region++) {
            h.prior(region, 70 + region);
        }
    }

    /** Two histories of unlike signs, rules, sights and signers: nothing of the one is seen in the other. */
    private static void imagesCrossed() {
        Due.sentence("BACK to one all is as it was then (IMAGES stay).");
        Scene.Step one = h -> {
            h.back(0);
            tellFirst(h);
        };
        Scene.Step other = h -> {
            h.back(0);
            tellSecond(h);
        };
        Scene.Step bare = h -> h.image(0);
        List<List<Long>> first = Scene.answers(bare, one, h -> h.image(1), HouseBoundsTest::drain, h -> h.back(1));
        List<List<Long>> crossed = Scene.answers(bare, one, h -> h.image(1), other, HouseBoundsTest::drain, h -> h.back(1));
        Scene.same("back to the first history", crossed, first);
        List<List<Long>> second = Scene.answers(bare, other, h -> h.image(1), HouseBoundsTest::drain, h -> h.back(1));
        List<List<Long>> turned = Scene.answers(bare, other, h -> h.image(1), one, HouseBoundsTest::drain, h -> h.back(1));
        Scene.same("back to the second history", turned, second);
        Due.due("the histories are unlike", first.equals(second) ? 1 : 0, 0);
        List<List<Long>> anew = Scene.answers(bare, one, h -> h.image(1), h -> h.back(0), h -> h.image(1), other, h -> h.image(1),
                HouseBoundsTest::drain);
        Scene.same("the second behind the first", anew, Scene.answers(bare, other, h -> h.image(1), HouseBoundsTest::drain));
    }

    /** Texts, faults and readings are no part of an image, so they are made alike. */
    private static void drain(Hand h) {
        h.back(0);
        h.sign("00000");
        h.read(0, 0, 0);
        h.sign("x");
        h.back(1);
    }

    private static void tellFirst(Hand h) {
        h.sign("00000p1/11111p2/22222p3/00012p4");
        h.sign("22222t5");
        h.rules("if end place=4 or begin turn=5 do set begin other 3,drop end;do set end turn 6");
        for (int i = 0; i < 7; i++) {
            h.sight(i % 2, i, 30 * i, i, i, i, i % 3);
        }
        for (int concept = 0; concept < 4; concept++) {
            h.variant(concept, 0);
            h.variant(concept, 1);
            for (int region = 0; region < 3; region++) {
                h.use(concept, 0, region, region + concept);
                h.use(concept, 1, region, 1);
            }
            h.used(concept, concept, 0, concept);
            h.used(concept, 3 - concept, 1, 2);
        }
    }

    private static void tellSecond(Hand h) {
        h.sign("22222p9o9");
        h.sign("11111p8/00000t7");
        h.sign("00000p1/00001");
        h.rules("if not end place=9 do drop begin;if end states>1 do set end place begin place;do set begin turn 1");
        for (int i = 0; i < 12; i++) {
            h.sight(i / 2 % 2, 19 - i, 242 - i, 19 - i, 7 - i % 8, 9 - i % 10, 2 - i % 3);
        }
        for (int concept = 3; concept >= 0; concept--) {
            for (int sign = 2; sign >= 0; sign--) {
                h.variant(concept, sign);
                for (int region = 0; region < 3; region++) {
                    h.use(concept, sign, region, 9 - region - sign);
                }
            }
            h.used(9 - concept, concept, 2, 1);
            h.used(concept, concept, 1, 0);
            h.used(concept, concept, 2, 2);
        }
    }

    private static void imagesKeepNot() {
        Due.sentence("IMAGES 0, 1 keep all but the TAPE, FAULT and the latest BEST");
        Hand h = Hand.with("00000", "22222");
        h.rules("do drop end");
        h.sight(0, 0, 242, NONE, NONE, NONE, 0);
        h.read(0, 1, 0);
        h.lay("00001");
        h.image(0);
        Due.due("an image leaves the tape", h.count(4), 5);
        Due.due("and the fault", h.fault(), NONE);
        Due.due("and the latest", h.best(0), 1);
        h.lay("x");
        Due.due("sign", h.sign(), -6);
        h.read(5, 7, 0);
        h.lay("00002p3");
        Due.due("back", h.back(0), 0);
        Due.due("the tape of now", h.count(4), 7);
        Due.due("the fault of now", h.fault(), 5);
        Due.due("the latest of now", h.best(0) * 100 + h.led(7, 0) * 10 + h.led(5, 1), 0);
        Due.due("not that of then", h.led(0, 0), NONE);
        Due.due("the text of now", h.sign(), 2);
        Due.due("its place", h.mark(2, 0, 1), 3);
        Due.due("its shape", h.mark(2, 0, 0), 2);
        Hand early = new Hand();
        early.image(1);
        early.sign("00000");
        early.read(0, 0, 0);
        early.sign("x");
        early.lay("00");
        early.back(1);
        Due.due("the latest stays, though its signs are gone", early.best(-1) * 10 + early.best(0), 10);
        Due.due("led too", early.led(0, 0), 0);
        Due.due("the fault stays", early.fault(), 0);
        Due.due("the tape stays", early.count(4), 2);
        Due.due("no signs", early.count(0), 0);
        Due.due("no reading", early.read(0, 0, 0), -6);
        Due.due("the latest stays still", early.best(0), 0);
        early.back(1);
        Due.due("the status is that of back", early.status(), 0);
    }

    private static void imagesStay() {
        Due.sentence("BACK to one all is as it was then (IMAGES stay).");
        Hand h = new Hand();
        h.image(0);
        h.weight(0, 7);
        h.image(1);
        h.weight(0, 8);
        for (int i = 0; i < 3; i++) {
            Due.due("back to 0", h.back(0), 0);
            Due.due("its weight", h.weight(0, 9), 1);
            Due.due("back to 1", h.back(1), 0);
            Due.due("its weight", h.weight(0, 9), 7);
            Due.due("twice", h.back(1), 0);
            Due.due("its weight", h.weight(0, 9), 7);
        }
        Due.due("image over image", h.image(1), 0);
        h.weight(0, 2);
        h.back(1);
        Due.due("that of the later one", h.weight(0, 3), 9);
        h.back(0);
        Due.due("the other one stays", h.weight(0, 3), 1);
        h.image(1);
        h.back(1);
        Due.due("0's in 1", h.weight(0, 4), 3);
    }

    private static void imagesOfBounds() {
        Due.sentence("IMAGE k is kept: 0; -1.");
        Hand h = new Hand();
        h.image(0);
        Scene.fill(h);
        Due.due("full", h.count(0) * 1000000 + h.count(1) * 10000 + h.count(2) * 60 + h.count(3), 10000000 + 120000 + 7200 + 60);
        Due.due("back to the full one", h.back(1), 0);
        Due.due("no eleventh sign", h.sign(), -5);
        Due.due("no 121st sight", h.sight(0, 0, 0, 0, 0, 0, 0), -5);
        Due.due("no 61st used", h.used(0, 0, 0, 0), -5);
        Due.due("no fifth variant", h.variant(3, 1), -5);
        Hand empty = new Hand();
        empty.image(1);
        fillAll(empty);
        Due.due("back to the empty one", empty.back(1), 0);
        for (int what = 0; what < 4; what++) {
            Due.due("count " + what, empty.count(what), 0);
        }
        Due.due("room for a sign", empty.sign("00000"), 0);
        Due.due("room for a sight", empty.sight(0, 0, 0, 0, 0, 0, 0), 1);
        Due.due("room for one used", empty.used(0, 3, 0, 0), 1);
        Due.due("room for a variant", empty.variant(3, 0), 1);
        Due.due("room for rules", empty.rules("do drop end"), 1);
        Due.due("nothing of the later sights", empty.joined(1, 0, 999), NONE);
        Due.due("nothing of the later signers", empty.counts(1, 3, 999), NONE);
        Due.due("the full image", empty.back(0), 0);
        Due.due("ten signs", empty.count(0), 10);
        Due.due("its sights", empty.joined(1, 0, 999), 82);
        Due.due("the tape of now", empty.count(4), 0);
    }

    /** The full image is 0, and what the image 1 kept stays in it. */
    private static void fillAll(Hand h) {
        for (int i = 0; i < 10; i++) {
            h.sign("00000p" + i);
        }
        h.rules("do drop end;".repeat(11) + "do drop end");
        for (int i = 0; i < 120; i++) {
            h.sight(i % 2, i / 2 % 20, i, NONE, NONE, NONE, 0);
        }
        for (int i = 0; i < 60; i++) {
            h.used(i % 10, 3, i % 10, 0);
        }
        for (int i = 0; i < 4; i++) {
            h.variant(3, i);
        }
        h.image(0);
    }

    private static void imageLeaves() {
        Due.sentence("IMAGE k is kept: 0; -1.");
        List<List<Long>> without = Scene.answers(Scene::furnish);
        List<List<Long>> with = Scene.answers(Scene::furnish, one -> one.image(1));
        int images = Scene.QUESTIONS.length - 1;
        Due.due("an image more shows", with.get(images).equals(without.get(images)) ? 0 : 1, 1);
        with.set(images, without.get(images));
        Scene.same("an image is kept", with, without);
    }

    private static void imageRefusals() {
        Due.sentence("IMAGES 0, 1");
        Hand h = new Hand();
        h.weight(0, 5);
        h.image(0);
        h.image(1);
        h.weight(0, 6);
        for (int bad : new int[] {-1, -2, 2, 3, 32, 256, Hand.LEAST, Hand.MOST}) {
            Due.due("image " + bad, h.image(bad), -1);
            Due.due("status", h.status(), -1);
            Due.due("back " + bad, h.back(bad), -1);
            Due.due("status", h.status(), -1);
            Due.due("all as it was", h.weight(0, 6), 6);
        }
        Due.due("image 0 stays", h.back(0) + h.weight(0, 6), 5);
        Due.due("image 1 stays", h.back(1) + h.weight(0, 6), 5);
    }

    private static void counts() {
        Due.sentence("0 SIGNS, 1 RULES, 2 SIGHTS, 3 USED, 4 bytes of the TAPE. NONE for others.");
        Hand h = new Hand();
        Scene.fill(h);
        int[] due = {10, 12, 120, 60, 400};
        for (int what = 0; what < 5; what++) {
            Due.due("full " + what, h.count(what), due[what]);
            Due.due("none " + what, new Hand().count(what), 0);
        }
        for (int bad : new int[] {-1, -2, 5, 6, 32, 256, Hand.LEAST, Hand.MOST}) {
            Due.due("count " + bad, h.count(bad), NONE);
        }
        Due.due("status is not touched", h.status(), 0);
        Hand one = new Hand();
        one.sign("00000");
        Due.due("a sign", one.count(0) * 10 + one.count(1), 10);
        one.rules("do drop end;do drop end");
        Due.due("two rules", one.count(1) * 10 + one.count(2), 20);
        one.sight(0, 0, 0, 0, 0, 0, 0);
        Due.due("a sight", one.count(2) * 10 + one.count(3), 10);
        one.used(0, 0, 0, 0);
        Due.due("one used", one.count(3) * 10 + one.count(4), 10);
        one.lay("abc");
        Due.due("three bytes", one.count(4), 3);
    }

    /** Where a call could be refused by several, the first of them in the document's order. */
    private static void order() {
        Due.sentence("REFUSED by: -1 a number that can't be; -2 there is no such SIGN, IMAGE; -4 twice; -5 no room; -6 a TEXT that"
                + " can't be, nothing to read. The first of these in that order.");
        Hand h = new Hand();
        Scene.fill(h);
        h.end(0);
        Due.due("-1 ahead of -2 in cost", h.cost(10, 10, 10, 5, 4, 0), -1);
        Due.due("-1 ahead of -2, -4, -5 in variant", h.variant(4, 10), -1);
        Due.due("-1 ahead of -4, -5 in variant", h.variant(-1, 0), -1);
        Due.due("-2 ahead of -5 in variant", h.variant(3, 10), -2);
        Due.due("-4 ahead of -5 in variant", h.variant(3, 6), -4);
        Due.due("-5 in variant", h.variant(3, 5), -5);
        Due.due("-1 ahead of -2 in use", h.use(3, 10, 0, 10), -1);
        Due.due("-1 ahead of no variant in use", h.use(3, 1, 3, 0), -1);
        Due.due("-2 in use", h.use(3, 1, 2, 0), -2);
        Due.due("-1 ahead of -2, -5 in used", h.used(10, 0, 10, 0), -1);
        Due.due("-1 ahead of -5 in used", h.used(0, 0, 0, 1000), -1);
        Due.due("-2 ahead of -5 in used", h.used(0, 0, 10, 0), -2);
        Due.due("-5 in used", h.used(0, 0, 0, 0), -5);
        Due.due("-1 ahead of -5 in sight", h.sight(0, 0, 243, 0, 0, 0, 0), -1);
        Due.due("-5 in sight", h.sight(0, 0, 0, 0, 0, 0, 0), -5);
        Due.due("-5 ahead of -6 in sign", h.sign("x"), -5);
        Due.due("-5 in sign", h.sign("00000"), -5);
        Due.due("-6 in rules", h.rules("x"), -6);
        Hand empty = new Hand();
        Due.due("-1 ahead of -6 in read", empty.read(1, 0, 0), -1);
        Due.due("-6 in read", empty.read(0, 0, 0), -6);
        Due.due("-1 ahead of -2 in back", empty.back(2), -1);
        Due.due("-2 in back", empty.back(1), -2);
        Due.due("-1 ahead of -2 in cost of none", empty.cost(0, 0, 0, 0, 0, 1000), -1);
        Due.due("-2 ahead of -6 in cost", Hand.with("00000/00000").cost(0, 1, NONE, 0, 0, 0), -2);
        Due.due("-6 in cost", Hand.with("00000/00000").cost(0, 0, NONE, 0, 0, 0), -6);
    }

    private static final List<String> REFUSED = List.of("sign", "rules", "place", "weight", "prices", "sight", "trust", "read",
            "cost", "variant", "use", "prior", "used", "image", "back");
    private static final int[][] GOOD = {{}, {}, {0, 0, 0}, {0, 5}, {0, 0}, {0, 0, 0, 0, 0, 0, 0}, {0, 0}, {0, 0, 0},
        {0, NONE, NONE, 0, 0, 0}, {1, 1}, {0, 0, 0, 0}, {0, 1}, {0, 0, 0, 0}, {0}, {0}};
    private static final int[][] BAD = {{}, {}, {20, 0, 0}, {4, 5}, {-1, 0}, {2, 0, 0, 0, 0, 0, 0}, {0, 101}, {1, 0, 0},
        {9, NONE, NONE, 0, 0, 0}, {0, 0}, {0, 1, 0, 0}, {0, 0}, {0, 0, 9, 0}, {2}, {1}};
    private static final int[] BY = {-6, -6, -1, -1, -1, -1, -1, -1, -2, -4, -2, -1, -2, -1, -2};

    private static Hand ready() {
        Hand h = Hand.with("00000", "22222");
        h.variant(0, 0);
        h.image(0);
        return h;
    }

    private static void lay(Hand h, int call, String text) {
        if (call < 2) {
            h.lay(text);
        }
    }

    /** Each refused call behind each good one, and each good one behind each refused one. */
    private static void statusOfEach() {
        Due.sentence("What the latest call of sign, rules, place, weight, prices, sight, trust, read, cost, variant, use,"
                + " prior, used, image, back was REFUSED by; 0 if it was not, or ahead of any.");
        Due.due("ahead of any", new Hand().status(), 0);
        for (int i = 0; i < REFUSED.size(); i++) {
            for (int j = 0; j < REFUSED.size(); j++) {
                Hand h = ready();
                lay(h, i, "x");
                Due.due(REFUSED.get(i), h.call(REFUSED.get(i), BAD[i]), BY[i]);
                Due.due("status of " + REFUSED.get(i), h.status(), BY[i]);
                lay(h, j, j == 0 ? "00000" : "do drop end");
                long answer = h.call(REFUSED.get(j), GOOD[j]);
                Due.due(REFUSED.get(j) + " is good", answer < 0 ? answer : 0, 0);
                Due.due("status of " + REFUSED.get(j), h.status(), 0);
                lay(h, i, "x");
                Due.due(REFUSED.get(i) + " again", h.call(REFUSED.get(i), BAD[i]), BY[i]);
                lay(h, j, "/");
                Due.due(REFUSED.get(j) + " refused", h.call(REFUSED.get(j), BAD[j]), BY[j]);
                Due.due("status of it", h.status(), BY[j]);
            }
        }
    }

    /** The other calls leave the status, whether they answer NONE or not. */
    private static void statusLeft() {
        String[] names = {"feed", "end", "fault", "mark", "surface", "distance", "joined", "clashes", "best", "led", "rivals", "near",
            "gap", "nearest", "parting", "like", "counts", "share", "region", "count", "status"};
        int[][] good = {{0, 0, 0, 0, 0}, {0}, {}, {0, 0, 0}, {0, 0, 0, 0, 0}, {0, 0, 0}, {0, 0, 0}, {0, 0, 0}, {0}, {0, 0},
            {0, 0, 0, 0}, {0, 1}, {0, 1}, {0}, {}, {0, 0, 0, 0}, {0, 0, 0}, {0, 0, 0, 0}, {0, 0}, {0}, {}};
        for (int i = 0; i < names.length; i++) {
            for (int status = 0; status < 2; status++) {
                Hand h = ready();
                h.weight(0, status == 0 ? 5 : 21);
                h.call(names[i], good[i]);
                Due.due("status behind a good " + names[i], h.status(), -status);
                int[] bad = new int[good[i].length];
                java.util.Arrays.fill(bad, -7);
                h.call(names[i], bad);
                Due.due("status behind a bad " + names[i], h.status(), -status);
            }
        }
        String calls = "best -1;best 0;best 5;led 2 0;led 2 1;led 7 0;led 2 2;count 0;count 1;count 2;count 3;count 4;count 5;"
                + "mark 0 -1 0;mark 0 1 3;mark 0 2 0;surface 1 0 2 -1 0;surface 1 0 2 0 0;surface -1 0 -1 9 9;distance 1 3 4;"
                + "joined 2 0 0;joined 2 3 0;joined 1 0 0;clashes 0 19 999;clashes 5 4 0;rivals 2 6 3 5;rivals 2 6 3 201;near 1 3;"
                + "near 0 1;gap 0 1;gap 0 9;nearest 0;nearest 9;parting;like 0 -1 -1 -1;like 243 0 0 0;counts 0 0 9;counts 0 3 9;"
                + "share 9 0 999 0;share 9 2 999 1;share 9 3 0 0;region 9 999;region 10 0;fault;status;end 3;end 4;feed 0 0 0 0 0";
        Hand asked = new Hand();
        Scene.furnish(asked);
        asked.back(1);
        for (String call : calls.split(";")) {
            leaves(asked, call);
        }
        Hand none = Hand.with("00000/00000", "22222/22222");
        none.variant(0, 0);
        none.variant(0, 1);
        for (int region = 0; region < 3; region++) {
            none.use(0, 0, region, 1);
        }
        none.used(0, 0, 1, 0);
        none.weight(0, 20);
        seen(none, 0, 0, 121, 242, 242);
        none.prices(0, 1);
        none.read(0, 4, 0);
        Due.due("a slide", none.led(2, 1), NONE);
        none.back(0);
        for (String call : new String[] {"share 0 0 0 0", "share 0 0 0 1", "region 0 0", "led 2 1", "rivals 3 3 0 0", "near 0 1"}) {
            Due.due("none of " + call, none.call(call.split(" ")[0], numbers(call)), NONE);
            leaves(none, call);
        }
        Hand h = ready();
        h.back(1);
        h.lay(" ".repeat(400));
        Due.due("a feed that has no room", h.feed(0, 0, 0, 0, 0), NONE);
        Due.due("leaves it", h.status(), -2);
        Due.due("an end that can't be", h.end(401), NONE);
        Due.due("leaves it", h.status(), -2);
    }

    private static void seen(Hand h, int... shapes) {
        for (int frame = 0; frame < shapes.length; frame++) {
            h.sight(0, frame, shapes[frame], NONE, NONE, NONE, 0);
        }
    }

    private static int[] numbers(String call) {
        String[] words = call.split(" ");
        int[] numbers = new int[words.length - 1];
        for (int i = 0; i < numbers.length; i++) {
            numbers[i] = Integer.parseInt(words[i + 1]);
        }
        return numbers;
    }

    /** A call told as its name and its numbers, behind a call that was refused by -2. */
    private static void leaves(Hand h, String call) {
        h.call(call.split(" ")[0], numbers(call));
        Due.due("status behind " + call, h.status(), -2);
    }

    /** An answer of 0 or more is no refusal, and each refusal is told as it is. */
    private static void answersOfStatus() {
        Hand h = new Hand();
        Due.due("rules of blanks", h.rules(" ") * 10 + h.status(), 0);
        Due.due("a sign that is 0", h.sign("00000") * 10 + h.status(), 0);
        h.weight(0, 0);
        Due.due("a weight that was 0", h.weight(0, 20) * 10 + h.status(), 0);
        Due.due("a weight that was 20", h.weight(0, 0) * 10 + h.status(), 200);
        h.trust(0, 0);
        Due.due("a trust that was 0", h.trust(0, 100) * 10 + h.status(), 0);
        h.prices(0, 0);
        Due.due("a cost of 0", h.cost(0, NONE, NONE, 0, 0, 0) * 10 + h.status(), 0);
        Due.due("a best of 0", h.read(0, 0, 0) * 10 + h.status(), 0);
        h.prices(1000, 1000);
        Due.due("a best of 1000", h.read(0, 0, 0) * 10 + h.status(), 10000);
    }

    private static void lastCall() {
        Due.sentence("An object is used for at most 512 calls after it has been made");
        Hand h = new Hand();
        Scene.furnish(h);
        while (h.callsLeft() > 8) {
            h.read(0, 19, h.callsLeft());
        }
        Due.due("call 505", h.read(Scene.FROM, Scene.TO, 0) >= 0 ? 1 : 0, 1);
        Due.due("call 506", h.count(0), 6);
        Due.due("call 507", h.weight(0, 20), 2);
        Due.due("call 508", h.image(1), 0);
        Due.due("call 509", h.weight(0, 1), 20);
        Due.due("call 510", h.back(1), 0);
        Due.due("call 511", h.weight(0, 1), 20);
        Due.due("call 512", h.status(), 0);
        Due.due("none is left", h.callsLeft(), 0);
    }
}
