import java.util.ArrayList;
import java.util.List;

/** Objects in which all is told, and questions by which any change of them shows. */
final class Scene {
    static final int SIGNS = 6;
    static final int FROM = 2;
    static final int TO = 6;
    static final int KNOWN = 3;
    private static final int NONE = Hand.NONE;

    private Scene() {
    }

    interface Step {
        void on(Hand h);
    }

    interface Question {
        void ask(Hand h, List<Long> answers);
    }

    static final Question[] QUESTIONS = {
        Scene::askBook, Scene::askSurfaces, Scene::askFrames, Scene::askReadings, Scene::askFolk, Scene::askSettings,
        Scene::askTape, Scene::askRules, Scene::askImages};

    /** Six signs, rules, sights, signers, an image, a latest best, a fault and a text on the tape. */
    static void furnish(Hand h) {
        h.sign("00000p1/11111p2t3");
        h.sign("22222p3o4");
        h.sign("00012p4t1/11111/20202o9");
        h.sign("22222p3o5");
        h.sign("10000p19t7");
        h.rules("if end place=2 do set begin turn 5,drop end;if begin states=1 do set end other 7");
        int[][] places = {{1, 2, 3}, {2, 20, 0}, {3, 0, 20}, {4, 7, 7}, {19, 1, 9}};
        for (int[] p : places) {
            h.place(p[0], p[1], p[2]);
        }
        h.trust(0, 40);
        h.trust(1, 60);
        h.prices(4, 3);
        watch(h);
        gather(h);
        h.image(0);
        h.sign("10000p19t6");
        for (int mark = 0; mark < 4; mark++) {
            h.weight(mark, mark + 2);
        }
        h.prices(3, 2);
        h.sight(1, 6, 81, 19, 7, 0, KNOWN);
        h.used(2, 0, 4, 7);
        h.read(FROM, TO, KNOWN);
        h.rules("do x");
        h.lay("00000p5");
    }

    private static void watch(Hand h) {
        h.sight(0, 0, 0, 1, 2, 3, 0);
        h.sight(1, 19, 242, 19, 7, 9, 0);
        h.sight(0, 2, 0, 1, NONE, NONE, 0);
        h.sight(1, 2, 0, 2, 3, NONE, 5);
        h.sight(0, 3, 121, NONE, 0, 9, 0);
        h.sight(1, 4, 242, 3, NONE, 4, 0);
        h.sight(0, 5, 242, 3, 0, NONE, 1);
        h.sight(1, 5, 200, 3, 7, NONE, KNOWN);
        h.sight(0, 6, 5, 4, 1, 0, 0);
    }

    private static void gather(Hand h) {
        int[][] variants = {{0, 1}, {0, 3}, {0, 4}, {1, 0}, {1, 2}, {3, 2}};
        for (int i = 0; i < variants.length; i++) {
            h.variant(variants[i][0], variants[i][1]);
            for (int region = 0; region < 3; region++) {
                h.use(variants[i][0], variants[i][1], region, 1 + (i * 2 + region * 3) % 9);
            }
        }
        for (int region = 0; region < 3; region++) {
            h.prior(region, 2 + region * region);
        }
        int[][] used = {{0, 0, 1, 0}, {0, 1, 2, 2}, {9, 3, 2, 0}, {9, 0, 3, 4}, {9, 0, 4, 3}, {5, 2, 0, 0}};
        for (int[] u : used) {
            h.used(u[0], u[1], u[2], u[3]);
        }
    }

    /** All lists full: signs, rules, sights, signs used, variants, the tape, both images. */
    static void fill(Hand h) {
        for (int i = 0; i < 10; i++) {
            h.sign("0000" + i % 3 + "p" + i);
        }
        h.rules("do drop end;".repeat(11) + "do drop end");
        for (int i = 0; i < 120; i++) {
            h.sight(i % 2, i / 2 % 20, i, i % 20, i % 8, i % 10, i);
        }
        for (int i = 0; i < 60; i++) {
            h.used(i % 10, i / 10 % 4, i % 10, i);
        }
        for (int i = 0; i < 4; i++) {
            h.variant(3, 2 * i);
        }
        h.image(0);
        h.image(1);
        h.lay(" ".repeat(380));
        h.feed(0x20202020, 0x20202020, 0x20202020, 0x20202030, 0x30303132);
    }

    /** What all questions are answered behind these steps, each question asked of an object of its own. */
    static List<List<Long>> answers(Step... steps) {
        List<List<Long>> all = new ArrayList<>();
        for (Question question : QUESTIONS) {
            Hand h = new Hand();
            for (Step step : steps) {
                step.on(h);
            }
            List<Long> answers = new ArrayList<>();
            question.ask(h, answers);
            all.add(answers);
        }
        return all;
    }

    /** Whether no question tells one step from another, both taken behind the same setup. */
    static void same(String what, Step setup, Step one, Step other) {
        same(what, answers(setup, one), answers(setup, other));
    }

    static void same(String what, List<List<Long>> one, List<List<Long>> other) {
        for (int i = 0; i < QUESTIONS.length; i++) {
            List<Long> left = one.get(i);
            List<Long> right = other.get(i);
            int at = 0;
            while (at < left.size() && at < right.size() && left.get(at).equals(right.get(at))) {
                at++;
            }
            Due.due(what + ": question " + i + " parts at answer " + at, at, Math.max(left.size(), right.size()));
        }
    }

    private static void askBook(Hand h, List<Long> answers) {
        askCounts(h, answers);
        answers.add((long) h.fault());
        for (int sign = 0; sign < 10; sign++) {
            int states = h.mark(sign, -1, 0);
            answers.add((long) states);
            for (int i = 0; i < 4 * states; i++) {
                answers.add((long) h.mark(sign, i / 4, i % 4));
            }
        }
        for (int place = 0; place < 20; place++) {
            answers.add((long) h.distance(1, place, 0));
            answers.add((long) h.distance(1, place, 1));
        }
        for (int a = 0; a < 7; a++) {
            for (int b = 0; b < a; b++) {
                answers.add((long) h.near(a, b));
                answers.add((long) h.gap(a, b));
            }
            answers.add((long) h.nearest(a));
        }
        answers.add((long) h.parting());
        answers.add((long) h.like(NONE, 3, NONE, NONE));
        answers.add((long) h.like(0, NONE, NONE, NONE));
    }

    private static void askCounts(Hand h, List<Long> answers) {
        for (int what = 0; what < 5; what++) {
            answers.add((long) h.count(what));
        }
    }

    private static void askSurfaces(Hand h, List<Long> answers) {
        for (int a = NONE; a < 4; a++) {
            for (int b = 0; b < 4; b++) {
                for (int c = NONE; c < 1; c++) {
                    answers.add((long) h.surface(a, b, c, -1, 0));
                    for (int mark = 1; mark < 4; mark++) {
                        answers.add((long) h.surface(a, b, c, 0, mark));
                    }
                }
            }
        }
    }

    private static void askFrames(Hand h, List<Long> answers) {
        for (int frame = 0; frame < 20; frame++) {
            for (int mark = 0; mark < 4; mark++) {
                answers.add((long) h.joined(frame, mark, 999));
                if (frame <= TO) {
                    answers.add((long) h.joined(frame, mark, 0));
                    answers.add((long) h.joined(frame, mark, KNOWN));
                }
            }
        }
        answers.add((long) h.clashes(0, 19, 0));
        answers.add((long) h.clashes(0, 19, KNOWN));
        answers.add((long) h.clashes(0, 19, 999));
    }

    private static void askReadings(Hand h, List<Long> answers) {
        askLatest(h, answers);
        for (int sign = 0; sign < SIGNS; sign++) {
            answers.add((long) h.cost(sign, NONE, NONE, FROM, TO, KNOWN));
            answers.add((long) h.cost(1, sign, 4, FROM, TO, 999));
        }
        askLatest(h, answers);
        for (int n = 0; n < 40; n += 3) {
            answers.add((long) h.rivals(FROM, TO, KNOWN, n));
        }
        askLatest(h, answers);
        answers.add((long) h.read(0, 19, 999));
        askLatest(h, answers);
    }

    private static void askLatest(Hand h, List<Long> answers) {
        for (int i = -1; i < 6; i++) {
            answers.add((long) h.best(i));
        }
        for (int frame = 0; frame < 20; frame++) {
            answers.add((long) h.led(frame, 0));
            answers.add((long) h.led(frame, 1));
        }
    }

    private static void askFolk(Hand h, List<Long> answers) {
        for (int signer = 0; signer < 10; signer++) {
            for (int concept = 0; concept < 4; concept++) {
                answers.add((long) h.counts(signer, concept, 999));
                answers.add((long) h.counts(signer, concept, 2));
            }
            for (int region = 0; region < 3; region++) {
                answers.add(h.share(signer, region, 999, 0));
                answers.add(h.share(signer, region, 999, 1));
            }
            answers.add((long) h.region(signer, 2));
        }
        for (int region = 0; region < 3; region++) {
            for (int concept = 0; concept < 4; concept++) {
                answers.add((long) h.use(concept, 4, region, 5));
                answers.add(h.share(9, region, 999, 0));
            }
        }
        for (int concept = 0; concept < 4; concept++) {
            answers.add((long) h.variant(concept, 4));
        }
    }

    private static void askSettings(Hand h, List<Long> answers) {
        answers.add((long) h.cost(1, NONE, NONE, FROM, TO, KNOWN));
        for (int n = 0; n < 4; n++) {
            answers.add((long) h.weight(n, 0));
        }
        answers.add((long) h.cost(1, NONE, NONE, FROM, TO, KNOWN));
        answers.add((long) h.cost(1, 1, NONE, FROM, TO, KNOWN));
        for (int watcher = 0; watcher < 2; watcher++) {
            answers.add((long) h.trust(watcher, 9));
        }
        for (int region = 0; region < 3; region++) {
            answers.add((long) h.prior(region, 9));
        }
        h.weight(0, 20);
        answers.add((long) h.cost(1, 0, 3, 0, 19, KNOWN));
        answers.add((long) h.cost(3, 1, NONE, 0, 19, KNOWN));
    }

    /** What lies on the tape is the next sign; what is laid behind it shows where it ended. */
    private static void askTape(Hand h, List<Long> answers) {
        answers.add((long) h.fault());
        answers.add((long) h.count(4));
        answers.add((long) h.feed(0x2f303132, 0x2f303132, 0x2f303132, 0x2f303132, 0x2f303132));
        answers.add((long) h.sign());
        answers.add((long) h.fault());
        answers.add((long) h.status());
        askCounts(h, answers);
    }

    private static void askRules(Hand h, List<Long> answers) {
        int sign = h.sign();
        answers.add((long) sign);
        answers.add((long) h.fault());
        for (int mark = 0; mark < 4; mark++) {
            answers.add((long) h.mark(sign, 0, mark));
        }
        answers.add((long) h.rules());
        answers.add((long) h.status());
        answers.add((long) h.fault());
        askCounts(h, answers);
    }

    private static void askImages(Hand h, List<Long> answers) {
        for (int k = 1; k >= 0; k--) {
            answers.add((long) h.back(k));
            askCounts(h, answers);
            answers.add((long) h.cost(1, 3, NONE, FROM, TO, 999));
            answers.add((long) h.surface(0, 1, 2, 0, 2));
            answers.add((long) h.clashes(0, 19, 999));
            answers.add(h.share(9, 1, 999, 0));
            answers.add((long) h.mark(4, 0, 1));
            answers.add((long) h.best(-1));
            answers.add((long) h.fault());
        }
    }
}
