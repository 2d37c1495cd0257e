import java.io.IOException;
import java.io.UncheckedIOException;
import java.lang.reflect.Method;
import java.lang.reflect.Modifier;
import java.nio.file.Files;
import java.nio.file.Path;
import java.util.ArrayList;
import java.util.Arrays;
import java.util.Collections;
import java.util.LinkedHashMap;
import java.util.List;
import java.util.Map;
import java.util.Random;
import java.util.Set;
import java.util.TreeSet;
import java.util.regex.Matcher;
import java.util.regex.Pattern;
import java.util.stream.Collectors;
import java.util.stream.Stream;

/** What README.md says is held against the class: its examples call by call, its tables row by row, its sentences. */
public final class ReadmeTest {
    private static final int NONE = Hand.NONE;
    private static final String PAGE = read("README.md");
    private static final Map<String, Method> FACE = face();
    /** Of each call that status() tells of, the numbers by which the page says that it is refused. */
    private static final Map<String, Set<Integer>> REFUSALS = new LinkedHashMap<>();
    private static final Set<String> NEVER_NONE = Set.of("parting", "status");

    public static void main(String[] args) {
        helper();
        examples();
        refusalTable();
        otherCalls();
        refusalsOfRuns();
        feeding();
        ending();
        reading();
        refused();
        orderOfRefusals();
        noSuch();
        faults();
        tests();
        Due.finish("ReadmeTest");
    }

    private static String read(String path) {
        try {
            return Files.readString(Path.of(path));
        } catch (IOException e) {
            throw new UncheckedIOException(e);
        }
    }

    private static Map<String, Method> face() {
        return Arrays.stream(HandTongue.class.getDeclaredMethods()).filter(m -> Modifier.isPublic(m.getModifiers()))
                .collect(Collectors.toMap(Method::getName, m -> m));
    }

    private static List<String> blocks() {
        List<String> blocks = new ArrayList<>();
        Matcher found = Pattern.compile("```java\n(.*?)```", Pattern.DOTALL).matcher(PAGE);
        while (found.find()) {
            blocks.add(found.group(1));
        }
        return blocks;
    }

    /** Compiled with the tests it can't be wrong Java, so it stands here and there word for word. */
    private static void helper() {
        Due.told("This lays a text behind them:");
        String shown = blocks().get(0).strip().indent(4);
        Due.due("the helper in Lay.java", read("src/test/support/Lay.java").contains(shown) ? 1 : 0, 1);
        HandTongue hands = new HandTongue();
        Due.due("a text", Lay.lay(hands, "00000p1") ? 1 : 0, 1);
        Due.due("behind it", Lay.lay(hands, "/" + "2".repeat(5) + " ".repeat(30)) ? 1 : 0, 1);
        Due.due("its length", hands.count(4), 43);
        Due.due("sign", hands.sign() + hands.mark(0, 1, 0), 242);
        Due.due("just full", Lay.lay(hands, " ".repeat(400)) ? 1 : 0, 1);
        Due.due("too long", Lay.lay(hands, "0") ? 1 : 0, 0);
        Due.due("as it was", hands.count(4), 400);
        hands.end(370);
        Due.due("too long in its second part", Lay.lay(hands, "0".repeat(31)) ? 1 : 0, 0);
        Due.due("as it was", hands.count(4), 370);
        Due.due("nothing", Lay.lay(hands, "") ? 1 : 0, 1);
        Due.due("as it was", hands.count(4), 370);
    }

    private static void examples() {
        Due.told("Behind each call stands its answer.");
        Pattern call = Pattern.compile("hands\\.(\\w+)\\((.*)\\); +// (-?\\d+)(: .*)?");
        Pattern laid = Pattern.compile("lay\\(hands, \"([^\"]*)\"\\); +// (true|false)");
        HandTongue hands = null;
        for (String block : blocks().subList(1, blocks().size())) {
            for (String line : block.split("\n")) {
                Matcher asCall = call.matcher(line);
                Matcher asText = laid.matcher(line);
                if (line.equals("HandTongue hands = new HandTongue();")) {
                    hands = new HandTongue();
                } else if (asCall.matches()) {
                    Due.due(line, answer(hands, asCall.group(1), numbers(asCall.group(2))), Long.parseLong(asCall.group(3)));
                } else if (asText.matches()) {
                    Due.due(line, Lay.lay(hands, asText.group(1)) ? 1 : 0, asText.group(2).equals("true") ? 1 : 0);
                } else if (!line.isBlank()) {
                    Due.fail("not understood: " + line);
                }
            }
        }
    }

    private static Object[] numbers(String told) {
        return told.isBlank() ? new Object[0] : Arrays.stream(told.split(", "))
                .map(one -> one.equals("HandTongue.NONE") ? NONE : Integer.parseInt(one)).toArray();
    }

    private static long answer(HandTongue hands, String name, Object[] numbers) {
        try {
            return ((Number) FACE.get(name).invoke(hands, numbers)).longValue();
        } catch (ReflectiveOperationException e) {
            throw new IllegalStateException(name, e);
        }
    }

    private static void refusalTable() {
        Due.told("| Call | Answers | Refused by |");
        Matcher row = Pattern.compile("\\| `(\\w+)\\((.*)\\)` \\| ([^|]*) \\| ([-0-9, ]+) \\|\n").matcher(PAGE);
        String source = read("src/main/java/HandTongue.java");
        while (row.find()) {
            Set<Integer> codes = Arrays.stream(row.group(4).split(", ")).map(Integer::valueOf)
                    .collect(Collectors.toCollection(TreeSet::new));
            REFUSALS.put(row.group(1), codes);
            String told = row.group(2).isEmpty() ? "" : "int " + row.group(2).replace(", ", ", int ");
            String head = "public int " + row.group(1) + "(" + told + ") {";
            Due.due("the class has " + head, source.contains(head) ? 1 : 0, 1);
        }
        Due.due("rows", REFUSALS.size(), 15);
    }

    private static void otherCalls() {
        Due.told("All other calls leave the status as it is.");
        int from = PAGE.indexOf("All other calls leave");
        int to = PAGE.indexOf("always have", from);
        Set<String> listed = new TreeSet<>();
        Matcher name = Pattern.compile("`([a-z]+)`").matcher(PAGE.substring(from, to));
        while (name.find()) {
            listed.add(name.group(1));
        }
        Set<String> others = new TreeSet<>(FACE.keySet());
        others.removeAll(REFUSALS.keySet());
        Due.due("those are " + others + ", told are " + listed, listed.equals(others) ? 1 : 0, 1);
    }

    /** Random runs: each call is refused by just the numbers that the page has, and status() tells of just those calls. */
    private static void refusalsOfRuns() {
        Due.told("Fifteen calls are refused by a number, and `status()` tells of the latest of them: that number, or 0 if it was"
                + " not refused.");
        Map<String, Set<Integer>> seen = new LinkedHashMap<>();
        FACE.keySet().forEach(name -> seen.put(name, new TreeSet<>(Collections.reverseOrder())));
        for (int seed = 0; seed < 150; seed++) {
            Random random = new Random(seed);
            Hand h = new Hand();
            if (seed % 3 > 0) {
                Scene.Step start = seed % 3 == 1 ? Scene::fill : Scene::furnish;
                start.on(h);
            }
            int status = h.status();
            while (h.callsLeft() > 8) {
                status = oneCall(h, random, seen, status);
            }
        }
        for (Map.Entry<String, Set<Integer>> one : seen.entrySet()) {
            Set<Integer> due = REFUSALS.getOrDefault(one.getKey(), NEVER_NONE.contains(one.getKey()) ? Set.of() : Set.of(NONE));
            boolean asTold = one.getKey().equals("status") || one.getValue().equals(due);
            Due.due(one.getKey() + " was refused by " + one.getValue() + ", told is " + due, asTold ? 1 : 0, 1);
        }
    }

    private static int oneCall(Hand h, Random random, Map<String, Set<Integer>> seen, int status) {
        List<String> names = new ArrayList<>(new TreeSet<>(FACE.keySet()));
        String name = names.get(random.nextInt(names.size()));
        int[] numbers = new int[7];
        for (int i = 0; i < numbers.length; i++) {
            numbers[i] = random.nextInt(8) == 0 ? random.nextInt(3000) - 1500 : random.nextInt(6) - random.nextInt(2);
        }
        if (random.nextInt(3) == 0) {
            h.lay(new String[] {"00000", "11111p3t2", "do drop end", "x", " "}[random.nextInt(5)]);
        }
        long answer = h.call(name, numbers);
        if (answer < 0) {
            seen.get(name).add((int) answer);
        }
        int due = REFUSALS.containsKey(name) ? (int) Math.min(answer, 0) : status;
        Due.due("status behind " + name + Arrays.toString(numbers), h.status(), due);
        return due;
    }

    private static void feeding() {
        Due.told("`feed(a, b, c, d, e)` puts twenty bytes behind the tape, four of each number, the highest byte first, and"
                + " answers how many the tape has then. If there would be more than 400 it answers `NONE` and the tape stays"
                + " as it is.");
        Hand h = new Hand();
        Due.due("feed", h.feed(0x30303132, 0x30703174, 0x326f332f, 0x32323232, 0x32702031), 20);
        Due.due("feed", h.feed(0x39202020, 0x20202020, 0x20202020, 0x20202020, 0x20202020), 40);
        Due.due("sign", h.sign(), 0);
        int[] marks = {15, 1, 2, 3, 242, 19, 2, 3};
        for (int i = 0; i < marks.length; i++) {
            Due.due("mark " + i, h.mark(0, i / 4, i % 4), marks[i]);
        }
        for (int i = 1; i <= 20; i++) {
            Due.due("feed", h.feed(0x20202020, 0x20202020, 0x20202020, 0x20202020, 0x20202020), 20 * i);
        }
        Due.due("no more", h.feed(0, 0, 0, 0, 0), NONE);
        Due.due("as it was", h.count(4), 400);
        Due.due("end", h.end(381), 381);
        Due.due("no more", h.feed(0, 0, 0, 0, 0), NONE);
        Due.due("as it was", h.rules(), 0);
    }

    private static void ending() {
        Due.told("`end(n)` keeps the first n bytes alone and answers n. If the tape has not so many, or n is below 0, it answers"
                + " `NONE` and the tape stays as it is.");
        Hand h = new Hand();
        Due.due("nothing yet", h.end(1), NONE);
        h.feed(0x30303030, 0x32703100, 0, 0, 0);
        Due.due("too many", h.end(21), NONE);
        Due.due("too few", h.end(-1), NONE);
        Due.due("as it was", h.count(4), 20);
        Due.due("end", h.end(7), 7);
        Due.due("sign", h.sign(), 0);
        Due.due("its place", h.mark(0, 0, 1), 1);
        Due.told("a byte 0 left behind a text is no blank, and the text can't be.");
        h.feed(0x30303030, 0x32703100, 0, 0, 0);
        Due.due("sign", h.sign(), -6);
        Due.due("fault", h.fault(), 7);
        h.feed(0, 0, 0, 0, 0);
        Due.due("rules", h.rules(), -6);
        Due.due("fault", h.fault(), 0);
    }

    private static void reading() {
        Due.told("Behind either of them the tape is empty, whatever it answered.");
        Hand h = new Hand();
        for (String text : new String[] {"00000", "x", "", "do drop end"}) {
            h.sign(text);
            Due.due("the tape behind sign of " + text, h.count(4), 0);
            h.rules(text);
            Due.due("the tape behind rules of " + text, h.count(4), 0);
        }
        Hand full = new Hand();
        Scene.fill(full);
        Due.due("no room", full.sign(), -5);
        Due.due("the tape", full.count(4), 0);
        Due.told("in place of those that there were");
        Due.due("rules", full.rules("do set end turn 3"), 1);
        Due.due("how many", full.count(1), 1);
        Due.due("the new one", full.surface(NONE, 0, 1, 0, 2), 3);
        Due.told("A sign is `00120p3t1o2 / 22222p4`: one to four states parted by `/`, each of them five bends and, if they are not"
                + " as in the state ahead, place, turn and other hand.");
        Hand shown = Hand.with("00120p3t1o2 / 22222p4");
        int[] marks = {15, 3, 1, 2, 242, 4, 1, 2};
        for (int i = 0; i < marks.length; i++) {
            Due.due("mark " + i, shown.mark(0, i / 4, i % 4), marks[i]);
        }
        String rules = "if end states>1 and not begin place=0 do drop end, set end turn 2; do set begin other end other";
        Due.told("`" + rules + "`: `end` is the last state of the sign ahead of a seam, `begin` the first state of the sign behind"
                + " it.");
        Due.due("rules", shown.rules(rules), 2);
        shown.sign("11111p1t7o9");
        Due.due("the last state is gone", shown.surface(NONE, 0, 1, -1, 0), 1);
        Due.due("the one left turns", shown.surface(NONE, 0, 1, 0, 2), 2);
        Due.due("the other hand of the sign ahead", shown.surface(0, 1, NONE, 0, 3), 2);
    }

    private static void refused() {
        Due.told("A refused call changes nothing but the status; `sign()` and `rules()` empty the tape too, and set the fault if"
                + " they read the text.");
        Scene.Step[] steps = {h -> h.place(0, 21, 0), h -> h.prices(-1, 7), h -> h.sight(0, 2, 1, 1, 1, 10, 0),
            h -> h.trust(1, 101), h -> h.read(3, 2, 0), h -> h.cost(0, 1, 2, 3, 4, 1000), h -> h.use(0, 1, 0, 10),
            h -> h.prior(0, 0), h -> h.used(10, 0, 0, 0), h -> h.image(-1)};
        for (int i = 0; i < steps.length; i++) {
            Scene.same("refused " + i, Scene::furnish, steps[i], h -> h.weight(4, 0));
        }
        Hand h = Hand.with("00000", "x0");
        h.rules("do set end turn 3");
        Due.due("no fault", h.fault(), NONE);
        Due.due("rules", h.rules("do drop"), -6);
        Due.due("its fault", h.fault(), 7);
        Due.due("the rules stay", h.surface(NONE, 0, 0, 0, 2), 3);
        Due.due("the tape", h.count(4), 0);
        Due.told("Ahead of any it is 0.");
        Due.due("status", new Hand().status(), 0);
    }

    /** Each call is given all that refuses it; what is answered is the first of the list. */
    private static void orderOfRefusals() {
        Due.told("Where more than one number would be due, the first of these is answered:");
        List<String> order = PAGE.lines().filter(line -> line.matches("- -\\d: .*")).map(line -> line.substring(2, 4)).toList();
        Due.due("the list " + order, order.equals(List.of("-1", "-2", "-4", "-5", "-6")) ? 1 : 0, 1);
        Hand h = new Hand();
        Due.due("a number and no sign", h.variant(4, 0), -1);
        Due.due("a number and no sign", h.use(0, 0, 3, 0), -1);
        Due.due("a number and no sign", h.used(0, 0, 0, 1000), -1);
        Due.due("a number and no sign", h.cost(0, 0, 0, 1, 0, 0), -1);
        Due.due("a number and nothing to read", h.read(0, 20, 0), -1);
        Due.due("no sign and nothing to read", h.cost(0, NONE, NONE, 0, 0, 0), -2);
        Hand full = new Hand();
        Scene.fill(full);
        Due.due("a number and no room", full.sight(0, 0, 243, 0, 0, 0, 0), -1);
        Due.due("a number and no room", full.used(0, 4, 0, 0), -1);
        Due.due("no sign and no room", full.used(0, 0, 10, 0), -2);
        Due.due("no sign and no room", full.variant(3, 10), -2);
        Due.due("twice and no room", full.variant(3, 6), -4);
        full.lay("x");
        Due.due("no room and no text", full.sign(), -5);
    }

    private static void noSuch() {
        Due.told("- -1: a number that can't be (but a sign that can't be is -2)");
        Hand h = Hand.with("00000", "11111");
        h.variant(0, 0);
        h.variant(1, 1);
        int[] signs = {2, 9, 10, -1, -2, 1000, Hand.MOST, Hand.LEAST};
        for (int sign : signs) {
            Due.due("variant of " + sign, h.variant(0, sign), -2);
            Due.due("use of " + sign, h.use(0, sign, 0, 1), -2);
            Due.due("used " + sign, h.used(0, 0, sign, 0), -2);
            Due.due("cost of " + sign, h.cost(sign, 0, 0, 0, 5, 0), -2);
        }
        for (int k : new int[] {-1, 2, Hand.MOST, Hand.LEAST}) {
            Due.due("image " + k, h.image(k), -1);
            Due.due("back " + k, h.back(k), -1);
        }
        Due.told("- -2: there is no such sign, or the image was not kept; for `use` also a sign that is no variant of the concept");
        Due.due("image 0", h.back(0), -2);
        Due.due("image 1", h.back(1), -2);
        Due.due("no variant there", h.use(0, 1, 0, 1), -2);
        Due.due("a variant", h.use(1, 1, 0, 1), 0);
    }

    private static void faults() {
        Due.told("If the text can't be, it is the place (0 is the first byte) of the first token that can't go on there; if the text"
                + " ends too early, it is the text's length. It is `NONE` if the text was good, and ahead of any.");
        Hand h = new Hand();
        Due.due("ahead of any", h.fault(), NONE);
        h.sign("  1 ");
        Due.due("a token too short", h.fault(), 2);
        h.sign("00000 p ");
        Due.due("the text's length", h.fault(), 8);
        h.sign("00000");
        Due.due("good", h.fault(), NONE);
        h.rules("do drop end, drop both");
        Due.due("no side", h.fault(), 18);
        Due.told("A `sign()` refused by -5 reads no text and leaves it as it was.");
        for (int i = 0; i < 9; i++) {
            h.sign("0000" + i % 3);
        }
        h.rules("do drop, end");
        h.sign("x");
        Due.due("status", h.status(), -5);
        Due.due("as it was", h.fault(), 7);
        h.rules("");
        h.sign("x");
        Due.due("as it was", h.fault(), NONE);
    }

    private static void tests() {
        Due.told("| Test | What it holds against the class |");
        Set<String> told = new TreeSet<>();
        Matcher row = Pattern.compile("\\| `(\\w+Test)` \\|").matcher(PAGE);
        while (row.find()) {
            told.add(row.group(1));
        }
        try (Stream<Path> files = Files.list(Path.of("src/test/java"))) {
            Set<String> there = files.map(file -> file.getFileName().toString().replace(".java", ""))
                    .collect(Collectors.toCollection(TreeSet::new));
            Due.due("there are " + there + ", told are " + told, told.equals(there) ? 1 : 0, 1);
        } catch (IOException e) {
            throw new UncheckedIOException(e);
        }
    }
}
