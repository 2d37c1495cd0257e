import java.util.ArrayList;
import java.util.Arrays;
import java.util.List;

/**
 * Every number of every call at both ends of its range: the last that is allowed, the first that is not, and ints as
 * large and as small as there are. A refused call leaves all as it was, and status() tells of it where it should.
 */
public final class RangesTest {
    private static final int NONE = Hand.NONE;
    private static final int LAST_SIGN = Scene.SIGNS - 1;
    private static final List<String> TOLD_BY_STATUS = List.of("sign", "rules", "place", "weight", "prices", "sight",
            "trust", "read", "cost", "variant", "use", "prior", "used", "image", "back");
    private static final List<Call> CALLS = new ArrayList<>();
    private static final List<List<Long>> UNTOUCHED = Scene.answers(Scene::furnish);
    /** Untouched but for the status: behind a call refused by -1, -2. */
    private static final List<List<List<Long>>> REFUSED = List.of(UNTOUCHED,
            Scene.answers(Scene::furnish, h -> h.weight(-1, 0)), Scene.answers(Scene::furnish, h -> h.back(1)));

    public static void main(String[] args) {
        listOfBook();
        listOfFrames();
        listOfFolk();
        for (Call call : CALLS) {
            Due.sentence(call.face);
            allowed(call);
            refused(call);
            refusedTwice(call);
        }
        asking();
        Due.finish("RangesTest");
    }

    /** One number of a call: what it may be, what it is while others are tried, and what refuses it. */
    private static final class Number {
        final int low;
        final int high;
        final int usual;
        final int refusal;

        Number(int low, int high, int usual, int refusal) {
            this.low = low;
            this.high = high;
            this.usual = usual;
            this.refusal = refusal;
        }

        boolean isFixed() {
            return low > high;
        }

        int[] wrong() {
            int[] all = {low - 1, low - 2, high + 1, high + 2, Hand.LEAST, Hand.LEAST + 1, Hand.LEAST + high, Hand.MOST,
                Hand.MOST - 1, usual - 256, usual + 256, usual + 65536, usual - 65536, usual + (1 << 24), usual + (1 << 30),
                -1000000, 1000000, ~high, ~usual};
            return isFixed() ? new int[0] : Arrays.stream(all).filter(n -> n < low || n > high).distinct().toArray();
        }
    }

    private static final class Call {
        final String name;
        final String face;
        final List<Number> numbers = new ArrayList<>();
        /** Whether a good call of it may find nothing. */
        boolean mayBeNone;

        Call(String name, String face) {
            this.name = name;
            this.face = face;
            CALLS.add(this);
        }

        private Call of(int low, int high, int usual, int refusal) {
            numbers.add(new Number(low, high, usual, refusal));
            return this;
        }

        Call of(int low, int high, int usual) {
            return of(low, high, usual, -1);
        }

        Call fixed(int n) {
            return of(1, 0, n, -1);
        }

        Call days() {
            return of(0, 999, Scene.KNOWN);
        }

        /** A span of frames: the one end's range depends on the other end. */
        Call span() {
            return of(0, Scene.TO, Scene.FROM).of(Scene.FROM, 19, Scene.TO).days();
        }

        Call sign(int usual) {
            return of(0, LAST_SIGN, usual, -2);
        }

        Call signOrNone(int usual) {
            return of(NONE, LAST_SIGN, usual, -2);
        }

        Call mayBeNone() {
            mayBeNone = true;
            return this;
        }

        boolean isToldByStatus() {
            return TOLD_BY_STATUS.contains(name);
        }

        int[] usual() {
            int[] all = new int[numbers.size()];
            for (int i = 0; i < all.length; i++) {
                all[i] = numbers.get(i).usual;
            }
            return all;
        }

        String told(int[] numbers) {
            return name + Arrays.toString(numbers);
        }
    }

    private static void listOfBook() {
        new Call("end", "NONE, if it has not so many, or n is below 0.").of(0, 7, 5);
        new Call("place", "x, y of a PLACE: 0; -1.").of(0, 19, 3).of(0, 20, 11).of(0, 20, 5);
        new Call("weight", "WEIGHT of a MARK: what it was; -1.").of(0, 3, 1).of(0, 20, 7);
        new Call("prices", "Prices of a SLIDE, a SIGN: 0; -1.").of(0, 1000, 9).of(0, 1000, 8);
        String mark = "A MARK of a STATE of a SIGN; how many STATES (state -1). NONE.";
        new Call("mark", mark).sign(2).of(-1, 2, 0).of(0, 3, 1);
        new Call("surface", "The same of its SURFACE behind a and ahead of c (NONE: nothing there). NONE.").signOrNone(1)
                .sign(1).signOrNone(4).of(-1, 0, 0).of(0, 3, 1);
        String distance = "DISTANCE of two values of a MARK; NONE.";
        new Call("distance", distance).of(0, 3, 1).fixed(3).fixed(2);
        for (int of = 0; of < 4; of++) {
            int most = new int[] {242, 19, 7, 9}[of];
            new Call("distance", distance).fixed(of).of(0, most, 3).of(0, most, 2);
        }
        new Call("near", "Whether two SIGNS are NEAR: STATE times 4 and the MARK by which they part; NONE").sign(1).sign(3)
                .mayBeNone();
        new Call("gap", "GAP of two SIGNS; NONE.").sign(2).sign(3);
        new Call("nearest", "The SIGN that has the least GAP to a SIGN, of alike ones the lowest (another one); NONE.").sign(3);
        new Call("like", "SIGNS LIKE a sight, as bits. NONE for MARKS that can't be.").of(NONE, 242, 0).of(NONE, 19, 1)
                .of(NONE, 7, 0).of(NONE, 9, 0);
    }

    private static void listOfFrames() {
        new Call("sight", "A SIGHT: how many there are. -1; -5.").of(0, 1, 1).of(0, 19, 4).of(NONE, 242, 81).of(NONE, 19, 4)
                .of(NONE, 7, 6).of(NONE, 9, 5).days();
        new Call("trust", "TRUST of a WATCHER: what it was; -1.").of(0, 1, 1).of(0, 100, 50);
        new Call("joined", "JOINED MARK of a FRAME as known on a DAY; NONE.").of(0, 19, 2).of(0, 3, 1).days().mayBeNone();
        new Call("clashes", "How many CLASHES there are in FRAMES from .. to as known; NONE.").span();
        new Call("read", "BEST of FRAMES from .. to as known, kept as the latest: its COST. -1; -6").span();
        new Call("best", "The i-th SIGN of the latest BEST; how many (i -1). NONE.").of(-1, best() - 1, 0);
        new Call("led", "LED of a FRAME of the latest BEST: the place in its row (what 0), the STATE (1; NONE a SLIDE). NONE.")
                .of(Scene.FROM, Scene.TO, 3).of(0, 1, 0).mayBeNone();
        new Call("rivals", "RIVALS within n (0 .. 200) of FRAMES from .. to as known; NONE").span().of(0, 200, 10);
        new Call("cost", "COST of a row of three SIGNS").sign(1).signOrNone(3).signOrNone(4).span().mayBeNone();
    }

    private static void listOfFolk() {
        new Call("variant", "A SIGN becomes a VARIANT of a CONCEPT: how many it has. -1; -2; -4; -5.").of(0, 3, 3).sign(5);
        new Call("use", "USE of a CONCEPT's SIGN in a REGION: 0. -1; -2 no such SIGN").of(0, 3, 0).sign(3).of(0, 2, 1)
                .of(0, 9, 4).mayBeNone();
        new Call("prior", "PRIOR of a REGION: what it was; -1.").of(0, 2, 1).of(1, 100, 30);
        new Call("used", "USED: how many were told. -1; -2; -5.").of(0, 9, 9).of(0, 3, 1).sign(3).days();
        new Call("counts", "The SIGN that counts of a SIGNER for a CONCEPT as known; NONE").of(0, 9, 0).of(0, 3, 0).days()
                .mayBeNone();
        new Call("share", "SHARE of a REGION for a SIGNER as known: upper (what 0), lower (1) number; NONE").of(0, 9, 9)
                .of(0, 2, 1).days().of(0, 1, 0);
        new Call("region", "The REGION of the greatest ODDS, of alike ones the lowest; NONE likewise.").of(0, 9, 9).days();
        new Call("image", "IMAGE k is kept: 0; -1.").of(0, 1, 1);
        new Call("back", "BACK to IMAGE k: 0. -1; -2 it was not kept.").of(0, 1, 0).mayBeNone();
        new Call("count", "NONE for others.").of(0, 4, 2);
    }

    private static Hand furnished() {
        Hand h = new Hand();
        Scene.furnish(h);
        return h;
    }

    private static int best() {
        return furnished().best(-1);
    }

    /** A number at an end of its range is no reason to refuse. */
    private static void allowed(Call call) {
        for (int i = 0; i < call.numbers.size(); i++) {
            Number number = call.numbers.get(i);
            for (int n : number.isFixed() ? new int[0] : new int[] {number.low, number.high}) {
                int[] numbers = call.usual();
                numbers[i] = n;
                Hand h = furnished();
                h.weight(-1, 0);
                long answer = h.call(call.name, numbers);
                Due.due(call.told(numbers) + " refused", answer < 0 && !call.mayBeNone ? answer : 0, 0);
                if (!call.mayBeNone) {
                    Due.due("status behind " + call.told(numbers), h.status(), call.isToldByStatus() ? 0 : -1);
                }
            }
        }
    }

    private static void refused(Call call) {
        for (int i = 0; i < call.numbers.size(); i++) {
            Number number = call.numbers.get(i);
            for (int n : number.wrong()) {
                int[] numbers = call.usual();
                numbers[i] = n;
                refusal(call, numbers, number.refusal);
                Scene.same(call.told(numbers), Scene.answers(Scene::furnish, h -> h.call(call.name, numbers)),
                        call.isToldByStatus() ? REFUSED.get(-number.refusal) : UNTOUCHED);
            }
        }
    }

    private static void refusal(Call call, int[] numbers, int refusal) {
        Hand h = furnished();
        h.trust(0, 40);
        Due.due("status of a good call", h.status(), 0);
        int due = call.isToldByStatus() ? refusal : NONE;
        Due.due(call.told(numbers), h.call(call.name, numbers), due);
        Due.due("status behind " + call.told(numbers), h.status(), call.isToldByStatus() ? refusal : 0);
        Due.due(call.told(numbers) + " again", h.call(call.name, numbers), due);
    }

    /** Of two wrong numbers that which comes first in the order of refusals counts. */
    private static void refusedTwice(Call call) {
        for (int i = 0; i < call.numbers.size(); i++) {
            for (int j = i + 1; j < call.numbers.size(); j++) {
                Number one = call.numbers.get(i);
                Number two = call.numbers.get(j);
                for (int k = 0; k < 4 && !one.isFixed() && !two.isFixed(); k++) {
                    int[] numbers = call.usual();
                    numbers[i] = new int[] {one.low - 1, one.high + 1, Hand.LEAST, Hand.MOST}[k];
                    numbers[j] = new int[] {two.high + 1, two.low - 1, Hand.LEAST, Hand.MOST}[k];
                    refusal(call, numbers, Math.max(one.refusal, two.refusal));
                }
            }
        }
    }

    /** Calls that only ask leave all as it was, the status too. */
    private static void asking() {
        Due.sentence("What the latest call of sign, rules, place, weight, prices, sight, trust, read, cost, variant, use,"
                + " prior, used, image, back was REFUSED by; 0 if it was not, or ahead of any.");
        for (Call call : CALLS) {
            if (!call.isToldByStatus() && !call.name.equals("end")) {
                int[] numbers = call.usual();
                Scene.same(call.told(numbers), Scene.answers(Scene::furnish, h -> h.call(call.name, numbers)), UNTOUCHED);
            }
        }
        for (String name : List.of("fault", "parting", "status")) {
            Scene.same(name, Scene.answers(Scene::furnish, h -> h.call(name)), UNTOUCHED);
        }
        Scene.same("cost", Scene::furnish, h -> h.cost(0, 1, 2, 0, 19, 999), h -> h.prices(3, 2));
    }
}
