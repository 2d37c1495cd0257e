import java.math.BigInteger;
import java.util.ArrayList;
import java.util.Arrays;
import java.util.List;
import java.util.Random;

/** Random runs of calls, each answer beside that of a plain model that tries all rows and all readings. */
public final class OracleTest {
    private static final int NONE = -1;
    private static int wrong = 0;
    private static int calls = 0;
    private static int rowChecks = 0;
    private static int faults = 0;
    private static int longRivals = 0;

    public static void main(String[] args) {
        int runs = args.length > 0 ? Integer.parseInt(args[0]) : 260;
        for (int seed = 1; seed <= runs && wrong < 10; seed++) {
            new Run(seed).go();
        }
        System.out.println("OracleTest: " + calls + " calls, " + rowChecks + " readings, " + longRivals + " rivals of many rows, "
                + faults + " faults in texts, " + wrong + " wrong");
        if (wrong != 0 || calls == 0 || rowChecks == 0 || longRivals == 0 || faults == 0) {
            System.exit(1);
        }
    }

    static final class Fault extends Exception {
        private static final long serialVersionUID = 1L;
        final int at;

        Fault(int at) {
            super("fault");
            this.at = at;
        }
    }

    static final class Token {
        final String text;
        final int at;

        Token(String text, int at) {
            this.text = text;
            this.at = at;
        }
    }

    interface Test {
        boolean holds(int[] end, int ends, int[] begin, int begins);
    }

    interface Value {
        int of(int[] end, int ends, int[] begin, int begins);
    }

    static final class Act {
        boolean drop;
        boolean onEnd;
        int mark;
        Value value;
    }

    static final class Rule {
        Test test;
        final List<Act> acts = new ArrayList<>();
    }

    static final class Parser {
        final List<Token> tokens = new ArrayList<>();
        int next = 0;
        int facts = 0;
        int acts = 0;

        Parser(int[] bytes) {
            int i = 0;
            while (i < bytes.length) {
                int from = i;
                int kind = kind(bytes[i]);
                i++;
                while (kind < 2 && i < bytes.length && kind(bytes[i]) == kind) {
                    i++;
                }
                StringBuilder text = new StringBuilder();
                for (int j = from; j < i; j++) {
                    text.append((char) bytes[j]);
                }
                if (!text.toString().equals(" ")) {
                    tokens.add(new Token(text.toString(), from));
                }
            }
            tokens.add(new Token("", bytes.length));
        }

        static int kind(int b) {
            return b >= 'a' && b <= 'z' ? 0 : b >= '0' && b <= '9' ? 1 : 2;
        }

        String word() {
            return tokens.get(next).text;
        }

        Fault fault() {
            return new Fault(tokens.get(next).at);
        }

        boolean skip(String word) {
            if (word().equals(word)) {
                next++;
                return true;
            }
            return false;
        }

        void need(String word) throws Fault {
            if (!skip(word)) {
                throw fault();
            }
        }

        int number(int most) throws Fault {
            if (!word().matches("[0-9]+") || new BigInteger(word()).compareTo(BigInteger.valueOf(most)) > 0) {
                throw fault();
            }
            next++;
            return Integer.parseInt(new BigInteger(tokens.get(next - 1).text).toString());
        }

        List<int[]> sign() throws Fault {
            List<int[]> states = new ArrayList<>();
            int[] ahead = {0, 0, 0, 0};
            do {
                if (states.size() == 4 || !word().matches("[012]{5}")) {
                    throw fault();
                }
                int[] state = ahead.clone();
                state[0] = Integer.parseInt(word(), 3);
                next++;
                while (word().matches("[pto]")) {
                    int mark = " pto".indexOf(word());
                    next++;
                    state[mark] = number(mark == 1 ? 19 : mark == 2 ? 7 : 9);
                }
                states.add(state);
                ahead = state;
            } while (skip("/"));
            if (!word().isEmpty()) {
                throw fault();
            }
            return states;
        }

        List<Rule> rules() throws Fault {
            List<Rule> rules = new ArrayList<>();
            if (word().isEmpty()) {
                return rules;
            }
            do {
                if (rules.size() == 12) {
                    throw fault();
                }
                rules.add(rule());
            } while (skip(";"));
            if (!word().isEmpty()) {
                throw fault();
            }
            return rules;
        }

        Rule rule() throws Fault {
            Rule rule = new Rule();
            rule.test = skip("if") ? test(0) : (a, b, c, d) -> true;
            need("do");
            do {
                rule.acts.add(act());
            } while (skip(","));
            return rule;
        }

        Act act() throws Fault {
            Act act = new Act();
            if (acts++ == 40) {
                throw fault();
            }
            if (skip("drop")) {
                act.drop = true;
                act.onEnd = onEnd();
                return act;
            }
            need("set");
            act.onEnd = onEnd();
            act.mark = List.of("shape", "place", "turn", "other").indexOf(word());
            if (act.mark < 0) {
                throw fault();
            }
            next++;
            act.value = value();
            return act;
        }

        boolean onEnd() throws Fault {
            if (skip("end")) {
                return true;
            }
            need("begin");
            return false;
        }

        Value value() throws Fault {
            if (word().matches("[0-9]+")) {
                int n = number(999);
                return (a, b, c, d) -> n;
            }
            boolean end = onEnd();
            int what = List.of("shape", "place", "turn", "other", "states").indexOf(word());
            if (what < 0) {
                throw fault();
            }
            next++;
            if (what == 4) {
                return (a, b, c, d) -> end ? b : d;
            }
            return (a, b, c, d) -> end ? a[what] : c[what];
        }

        Test test(int depth) throws Fault {
            Test left = both(depth);
            while (skip("or")) {
                Test one = left;
                Test two = both(depth);
                left = (a, b, c, d) -> one.holds(a, b, c, d) || two.holds(a, b, c, d);
            }
            return left;
        }

        Test both(int depth) throws Fault {
            Test left = fact(depth);
            while (skip("and")) {
                Test one = left;
                Test two = fact(depth);
                left = (a, b, c, d) -> one.holds(a, b, c, d) && two.holds(a, b, c, d);
            }
            return left;
        }

        Test fact(int depth) throws Fault {
            if (skip("not")) {
                Test one = fact(depth);
                return (a, b, c, d) -> !one.holds(a, b, c, d);
            }
            if (word().equals("(")) {
                if (depth == 6) {
                    throw fault();
                }
                next++;
                Test one = test(depth + 1);
                need(")");
                return one;
            }
            if (facts++ == 40) {
                throw fault();
            }
            Value left = value();
            int kind = List.of("<", ">", "=").indexOf(word());
            if (kind < 0) {
                throw fault();
            }
            next++;
            Value right = value();
            return (a, b, c, d) -> {
                int sign = Integer.compare(left.of(a, b, c, d), right.of(a, b, c, d));
                return kind == 0 ? sign < 0 : kind == 1 ? sign > 0 : sign == 0;
            };
        }
    }

    static final class Data {
        List<List<int[]>> signs = new ArrayList<>();
        List<Rule> rules = new ArrayList<>();
        List<int[]> sights = new ArrayList<>();
        List<int[]> useds = new ArrayList<>();
        List<List<Integer>> variants = new ArrayList<>();
        int[][] places = new int[20][2];
        int[] weights = {1, 1, 1, 1};
        int[] trusts = {50, 50};
        int[] priors = {1, 1, 1};
        int[][][] uses = new int[4][10][3];
        int slide = 5;
        int price = 1;

        Data() {
            for (int i = 0; i < 4; i++) {
                variants.add(new ArrayList<>());
            }
        }

        Data copy() {
            Data d = new Data();
            d.signs.addAll(signs);
            d.rules.addAll(rules);
            d.sights.addAll(sights);
            d.useds.addAll(useds);
            for (int i = 0; i < 4; i++) {
                d.variants.get(i).addAll(variants.get(i));
                for (int j = 0; j < 10; j++) {
                    d.uses[i][j] = uses[i][j].clone();
                }
            }
            for (int i = 0; i < 20; i++) {
                d.places[i] = places[i].clone();
            }
            d.weights = weights.clone();
            d.trusts = trusts.clone();
            d.priors = priors.clone();
            d.slide = slide;
            d.price = price;
            return d;
        }
    }

    static final class Model {
        static final int[] MOST = {242, 19, 7, 9};
        Data now = new Data();
        final Data[] images = new Data[2];
        List<Integer> tape = new ArrayList<>();
        int fault = NONE;
        int status = 0;
        int[] bestRow = {};
        int[][] bestLed = {};
        int bestFrom = 0;

        static boolean in(int n, int low, int high) {
            return low <= n && n <= high;
        }

        int told(int answer) {
            status = answer < 0 ? answer : 0;
            return answer;
        }

        int feed(int... five) {
            if (tape.size() > 380) {
                return NONE;
            }
            for (int n : five) {
                for (int i = 3; i >= 0; i--) {
                    tape.add(n >>> 8 * i & 255);
                }
            }
            return tape.size();
        }

        int end(int n) {
            if (n < 0 || n > tape.size()) {
                return NONE;
            }
            tape = new ArrayList<>(tape.subList(0, n));
            return n;
        }

        int[] takeTape() {
            int[] bytes = new int[tape.size()];
            for (int i = 0; i < bytes.length; i++) {
                bytes[i] = tape.get(i);
            }
            tape.clear();
            fault = NONE;
            return bytes;
        }

        int sign() {
            if (now.signs.size() == 10) {
                tape.clear();
                return told(-5);
            }
            try {
                now.signs.add(new Parser(takeTape()).sign());
                return told(now.signs.size() - 1);
            } catch (Fault f) {
                faults++;
                fault = f.at;
                return told(-6);
            }
        }

        int rules() {
            try {
                now.rules = new Parser(takeTape()).rules();
                return told(now.rules.size());
            } catch (Fault f) {
                faults++;
                fault = f.at;
                return told(-6);
            }
        }

        int place(int place, int x, int y) {
            if (!in(place, 0, 19) || !in(x, 0, 20) || !in(y, 0, 20)) {
                return told(-1);
            }
            now.places[place] = new int[] {x, y};
            return told(0);
        }

        int weight(int mark, int weight) {
            if (!in(mark, 0, 3) || !in(weight, 0, 20)) {
                return told(-1);
            }
            int was = now.weights[mark];
            now.weights[mark] = weight;
            return told(was);
        }

        int prices(int slide, int sign) {
            if (!in(slide, 0, 1000) || !in(sign, 0, 1000)) {
                return told(-1);
            }
            now.slide = slide;
            now.price = sign;
            return told(0);
        }

        boolean isSign(int s) {
            return in(s, 0, now.signs.size() - 1);
        }

        static int of(List<int[]> states, int state, int mark) {
            if (state == -1) {
                return states.size();
            }
            return in(state, 0, states.size() - 1) && in(mark, 0, 3) ? states.get(state)[mark] : NONE;
        }

        int mark(int sign, int state, int mark) {
            return isSign(sign) ? of(now.signs.get(sign), state, mark) : NONE;
        }

        int surface(int a, int b, int c, int state, int mark) {
            if (!isSign(b) || a != NONE && !isSign(a) || c != NONE && !isSign(c)) {
                return NONE;
            }
            return of(raise(a, b, c), state, mark);
        }

        List<int[]> raise(int a, int b, int c) {
            List<int[]> states = new ArrayList<>();
            for (int[] s : now.signs.get(b)) {
                states.add(s.clone());
            }
            if (a != NONE) {
                seam(a, b, states, false);
            }
            if (c != NONE) {
                seam(b, c, states, true);
            }
            return states;
        }

        void seam(int ahead, int behind, List<int[]> states, boolean onEnd) {
            List<int[]> one = now.signs.get(ahead);
            List<int[]> two = now.signs.get(behind);
            int[] end = one.get(one.size() - 1);
            int[] begin = two.get(0);
            for (Rule rule : now.rules) {
                if (!rule.test.holds(end, one.size(), begin, two.size())) {
                    continue;
                }
                for (Act act : rule.acts) {
                    if (act.onEnd != onEnd) {
                        continue;
                    }
                    int at = onEnd ? states.size() - 1 : 0;
                    if (act.drop) {
                        if (states.size() > 1) {
                            states.remove(at);
                        }
                    } else {
                        int value = act.value.of(end, one.size(), begin, two.size());
                        if (in(value, 0, MOST[act.mark])) {
                            states.get(at)[act.mark] = value;
                        }
                    }
                }
            }
        }

        int distance(int mark, int a, int b) {
            if (!in(mark, 0, 3) || !in(a, 0, MOST[mark]) || !in(b, 0, MOST[mark])) {
                return NONE;
            }
            if (mark == 0) {
                int sum = 0;
                for (int p = 1; p <= 81; p *= 3) {
                    sum += Math.abs(a / p % 3 - b / p % 3);
                }
                return sum;
            }
            if (mark == 1) {
                return Math.abs(now.places[a][0] - now.places[b][0]) + Math.abs(now.places[a][1] - now.places[b][1]);
            }
            if (mark == 2) {
                return Math.min((a - b + 8) % 8, (b - a + 8) % 8);
            }
            return a == b ? 0 : 1;
        }

        boolean seen(int... marks) {
            for (int i = 0; i < 4; i++) {
                if (!in(marks[i], -1, MOST[i])) {
                    return false;
                }
            }
            return true;
        }

        int sight(int w, int f, int s, int p, int t, int o, int known) {
            if (!in(w, 0, 1) || !in(f, 0, 19) || !in(known, 0, 999) || !seen(s, p, t, o)) {
                return told(-1);
            }
            if (now.sights.size() == 120) {
                return told(-5);
            }
            now.sights.add(new int[] {w, f, known, s, p, t, o});
            return told(now.sights.size());
        }

        int trust(int w, int trust) {
            if (!in(w, 0, 1) || !in(trust, 0, 100)) {
                return told(-1);
            }
            int was = now.trusts[w];
            now.trusts[w] = trust;
            return told(was);
        }

        int saw(int w, int f, int mark, int known) {
            int value = NONE;
            for (int[] sight : now.sights) {
                if (sight[0] == w && sight[1] == f && sight[2] <= known) {
                    value = sight[3 + mark];
                }
            }
            return value;
        }

        int joined(int f, int mark, int known) {
            if (!in(f, 0, 19) || !in(mark, 0, 3) || !in(known, 0, 999)) {
                return NONE;
            }
            int one = saw(0, f, mark, known);
            int two = saw(1, f, mark, known);
            if (one == NONE || two == NONE) {
                return Math.max(one, two);
            }
            return now.trusts[1] > now.trusts[0] ? two : one;
        }

        boolean span(int from, int to, int known) {
            return in(from, 0, 19) && in(to, from, 19) && in(known, 0, 999);
        }

        int clashes(int from, int to, int known) {
            if (!span(from, to, known)) {
                return NONE;
            }
            int n = 0;
            for (int f = from; f <= to; f++) {
                for (int m = 0; m < 4; m++) {
                    int one = saw(0, f, m, known);
                    int two = saw(1, f, m, known);
                    n += one >= 0 && two >= 0 && one != two ? 1 : 0;
                }
            }
            return n;
        }

        int[][] look(int from, int to, int known) {
            int[][] joined = new int[to - from + 1][4];
            for (int f = from; f <= to; f++) {
                for (int m = 0; m < 4; m++) {
                    joined[f - from][m] = joined(f, m, known);
                }
            }
            return joined;
        }

        int match(int[] seen, int[] state) {
            int sum = 0;
            for (int m = 0; m < 4; m++) {
                sum += seen[m] == NONE ? 0 : now.weights[m] * distance(m, seen[m], state[m]);
            }
            return sum;
        }

        /** Slots of a row in order: each {place, state or 9 for a slide}, with the marks of the state. */
        void slots(int[] row, List<int[]> slots, List<int[]> marks) {
            for (int i = 0; i < row.length; i++) {
                List<int[]> s = raise(i == 0 ? NONE : row[i - 1], row[i], i + 1 == row.length ? NONE : row[i + 1]);
                for (int j = 0; j < s.size(); j++) {
                    slots.add(new int[] {i, j});
                    marks.add(s.get(j));
                }
                for (int j = 0; j < 3 && i + 1 < row.length; j++) {
                    slots.add(new int[] {i, 9});
                    marks.add(null);
                }
            }
        }

        /** Whether a frame in one slot may be followed by the next frame in another. */
        static boolean follows(List<int[]> slots, int one, int two) {
            if (one == two) {
                return slots.get(one)[1] != 9;
            }
            if (two < one) {
                return false;
            }
            for (int k = one + 1; k < two; k++) {
                if (slots.get(k)[1] != 9) {
                    return false;
                }
            }
            return true;
        }

        /** The cost of a row, or -1; the led places are left in lastLed. */
        int[][] lastLed;

        int rowCost(int[] row, int[][] seen, boolean wantLed) {
            List<int[]> slots = new ArrayList<>();
            List<int[]> marks = new ArrayList<>();
            slots(row, slots, marks);
            int n = seen.length;
            int size = slots.size();
            int[][] cost = new int[n][size];
            String[][] way = new String[n][size];
            for (int f = 0; f < n; f++) {
                for (int s = 0; s < size; s++) {
                    int own = slots.get(s)[1] == 9 ? now.slide : match(seen[f], marks.get(s));
                    String step = "" + (char) ('a' + slots.get(s)[0]) + slots.get(s)[1];
                    cost[f][s] = -1;
                    if (f == 0) {
                        if (s == 0) {
                            cost[f][s] = own;
                            way[f][s] = step;
                        }
                        continue;
                    }
                    for (int p = 0; p <= s; p++) {
                        if (cost[f - 1][p] < 0 || !follows(slots, p, s)) {
                            continue;
                        }
                        int sum = cost[f - 1][p] + own;
                        boolean better = cost[f][s] < 0 || sum < cost[f][s];
                        if (!better && wantLed && sum == cost[f][s]) {
                            better = (way[f - 1][p] + step).compareTo(way[f][s]) < 0;
                        }
                        if (better) {
                            cost[f][s] = sum;
                            way[f][s] = wantLed ? way[f - 1][p] + step : "";
                        }
                    }
                }
            }
            if (cost[n - 1][size - 1] < 0) {
                return -1;
            }
            if (wantLed) {
                lastLed = new int[n][];
                for (int f = 0; f < n; f++) {
                    int state = way[n - 1][size - 1].charAt(2 * f + 1) - '0';
                    lastLed[f] = new int[] {way[n - 1][size - 1].charAt(2 * f) - 'a', state == 9 ? NONE : state};
                }
            }
            return cost[n - 1][size - 1] + row.length * now.price;
        }

        static long rowsOf(int signs, int frames) {
            long sum = 0;
            long power = 1;
            for (int i = 0; i < frames; i++) {
                power *= signs;
                sum += power;
                if (sum > 1000000) {
                    return sum;
                }
            }
            return sum;
        }

        int leastCost;
        int[] leastRow;
        List<Integer> allCosts;

        void tryAll(int[][] seen) {
            leastCost = -1;
            leastRow = null;
            allCosts = new ArrayList<>();
            for (int length = 1; length <= seen.length; length++) {
                tryRows(new int[length], 0, seen);
            }
        }

        void tryRows(int[] row, int at, int[][] seen) {
            if (at == row.length) {
                int cost = rowCost(row, seen, false);
                if (cost >= 0) {
                    allCosts.add(cost);
                    if (leastCost < 0 || cost < leastCost) {
                        leastCost = cost;
                        leastRow = row.clone();
                    }
                }
                return;
            }
            for (int s = 0; s < now.signs.size(); s++) {
                row[at] = s;
                tryRows(row, at + 1, seen);
            }
        }

        /** For rows that are too many to try: labels of cost, number and row that go from frame to frame. */
        void tryLabels(int[][] seen) {
            int n = seen.length;
            int signs = now.signs.size();
            Label[][][][][] at = new Label[n + 1][signs + 1][signs][signs + 1][4];
            List<List<int[]>> raised = new ArrayList<>();
            for (int a = NONE; a < signs; a++) {
                for (int b = 0; b < signs; b++) {
                    for (int c = NONE; c < signs; c++) {
                        raised.add(raise(a, b, c));
                    }
                }
            }
            for (int b = 0; b < signs; b++) {
                for (int c = NONE; c < signs; c++) {
                    String row = "" + (char) ('a' + b) + (c == NONE ? "" : "" + (char) ('a' + c));
                    put(at[0][0][b], c + 1, 0, new Label(now.price, row));
                }
            }
            Label best = null;
            for (int f = 0; f < n; f++) {
                for (int a = NONE; a < signs; a++) {
                    for (int b = 0; b < signs; b++) {
                        for (int c = NONE; c < signs; c++) {
                            List<int[]> s = raised.get(((a + 1) * signs + b) * (signs + 1) + c + 1);
                            for (int j = 0; j < s.size(); j++) {
                                Label one = at[f][a + 1][b][c + 1][j];
                                if (one == null) {
                                    continue;
                                }
                                one = new Label(one.cost + match(seen[f], s.get(j)), one.row);
                                put(at[f + 1][a + 1][b], c + 1, j, one);
                                if (j + 1 < s.size()) {
                                    put(at[f + 1][a + 1][b], c + 1, j + 1, one);
                                } else if (c == NONE) {
                                    best = f + 1 == n && one.isBefore(best) ? one : best;
                                } else {
                                    pass(at, f + 1, b, c, one);
                                }
                            }
                        }
                    }
                }
            }
            leastCost = best == null ? -1 : best.cost;
            leastRow = null;
            if (best != null) {
                leastRow = new int[best.row.length()];
                for (int i = 0; i < leastRow.length; i++) {
                    leastRow[i] = best.row.charAt(i) - 'a';
                }
            }
        }

        void pass(Label[][][][][] at, int f, int b, int c, Label one) {
            for (int slides = 0; slides <= 3 && f + slides < at.length; slides++) {
                for (int d = NONE; d < now.signs.size(); d++) {
                    String row = one.row + (d == NONE ? "" : "" + (char) ('a' + d));
                    put(at[f + slides][b + 1][c], d + 1, 0, new Label(one.cost + slides * now.slide + now.price, row));
                }
            }
        }

        static void put(Label[][] at, int c, int j, Label label) {
            if (label.isBefore(at[c][j])) {
                at[c][j] = label;
            }
        }

        int find(int[][] seen) {
            if (now.signs.isEmpty()) {
                return -1;
            }
            rowChecks++;
            if (rowsOf(now.signs.size(), seen.length) <= 3000) {
                tryAll(seen);
            } else {
                tryLabels(seen);
            }
            return leastCost;
        }

        int read(int from, int to, int known) {
            if (!span(from, to, known)) {
                return told(-1);
            }
            int[][] seen = look(from, to, known);
            if (find(seen) < 0) {
                return told(-6);
            }
            bestRow = leastRow;
            int cost = rowCost(bestRow, seen, true);
            if (cost != leastCost) {
                throw new IllegalStateException("the model is at odds with itself: " + cost + ", " + leastCost);
            }
            bestLed = lastLed;
            bestFrom = from;
            return told(leastCost);
        }

        int best(int i) {
            if (i == -1) {
                return bestRow.length == 0 ? NONE : bestRow.length;
            }
            return in(i, 0, bestRow.length - 1) ? bestRow[i] : NONE;
        }

        int led(int frame, int what) {
            if (!in(what, 0, 1) || !in(frame, bestFrom, bestFrom + bestLed.length - 1)) {
                return NONE;
            }
            return bestLed[frame - bestFrom][what];
        }

        /** Only for rows that are few enough to try; else rivalsOfMany. */
        int rivals(int from, int to, int known, int n) {
            if (!span(from, to, known) || !in(n, 0, 200) || now.signs.isEmpty()) {
                return NONE;
            }
            tryAll(look(from, to, known));
            rowChecks++;
            if (leastCost < 0) {
                return NONE;
            }
            int count = 0;
            for (int cost : allCosts) {
                count += cost <= leastCost + n ? 1 : 0;
            }
            return Math.min(count, 1000);
        }

        static final int MOST_STEPS = 1500;
        static final int UNKNOWN = -99;
        int steps;
        int within;

        /** Rows that are too many to try grow sign by sign while they may stay within; UNKNOWN if those are too many too. */
        int rivalsOfMany(int from, int to, int known, int n) {
            if (!span(from, to, known) || !in(n, 0, 200) || now.signs.isEmpty()) {
                return NONE;
            }
            int[][] seen = look(from, to, known);
            if (find(seen) < 0) {
                return NONE;
            }
            steps = 0;
            within = 0;
            int[] floor = floors(seen);
            for (int s = 0; s < now.signs.size(); s++) {
                grow(new int[] {s}, seen, floor, leastCost + n);
            }
            return within >= 1000 ? 1000 : steps > MOST_STEPS ? UNKNOWN : within;
        }

        /** What the frames from each one on cost at least, whatever they are led to. */
        int[] floors(int[][] seen) {
            List<int[]> states = new ArrayList<>();
            for (int a = NONE; a < now.signs.size(); a++) {
                for (int b = 0; b < now.signs.size(); b++) {
                    for (int c = NONE; c < now.signs.size(); c++) {
                        states.addAll(raise(a, b, c));
                    }
                }
            }
            int[] floor = new int[seen.length + 1];
            for (int f = seen.length - 1; f >= 0; f--) {
                int least = now.slide;
                for (int[] state : states) {
                    least = Math.min(least, match(seen[f], state));
                }
                floor[f] = floor[f + 1] + least;
            }
            return floor;
        }

        void grow(int[] row, int[][] seen, int[] floor, int most) {
            steps++;
            if (steps > MOST_STEPS || within >= 1000) {
                return;
            }
            int[] begins = begins(row, seen);
            boolean mayBe = false;
            for (int f = 0; f < seen.length; f++) {
                mayBe |= begins[f] >= 0 && begins[f] + floor[f] <= most;
            }
            if (!mayBe) {
                return;
            }
            int cost = rowCost(row, seen, false);
            within += cost >= 0 && cost <= most ? 1 : 0;
            for (int s = 0; s < now.signs.size(); s++) {
                int[] longer = Arrays.copyOf(row, row.length + 1);
                longer[row.length] = s;
                grow(longer, seen, floor, most);
            }
        }

        /** For each frame what it costs at least that the last sign of a row begins there; -1 if it can't. */
        int[] begins(int[] row, int[][] seen) {
            int[] begins = new int[seen.length];
            Arrays.fill(begins, -1);
            begins[0] = now.price;
            for (int i = 0; i + 1 < row.length; i++) {
                List<int[]> states = raise(i == 0 ? NONE : row[i - 1], row[i], row[i + 1]);
                int[] next = new int[seen.length];
                Arrays.fill(next, -1);
                for (int f = 0; f < seen.length; f++) {
                    if (begins[f] >= 0) {
                        spread(states, 0, f, begins[f], seen, next);
                    }
                }
                begins = next;
            }
            return begins;
        }

        /** A state takes one frame after another; behind each the next state, or slides and the next sign. */
        void spread(List<int[]> states, int state, int from, int spent, int[][] seen, int[] next) {
            int sum = spent;
            for (int f = from; f < seen.length; f++) {
                sum += match(seen[f], states.get(state));
                if (state + 1 < states.size()) {
                    spread(states, state + 1, f + 1, sum, seen, next);
                    continue;
                }
                for (int slides = 0; slides <= 3 && f + 1 + slides < seen.length; slides++) {
                    int all = sum + slides * now.slide + now.price;
                    int at = f + 1 + slides;
                    next[at] = next[at] < 0 ? all : Math.min(next[at], all);
                }
            }
        }

        int cost(int a, int b, int c, int from, int to, int known) {
            if (!span(from, to, known)) {
                return told(-1);
            }
            int[] row = b == NONE ? new int[] {a} : c == NONE ? new int[] {a, b} : new int[] {a, b, c};
            for (int s : row) {
                if (!isSign(s)) {
                    return told(-2);
                }
            }
            int cost = rowCost(row, look(from, to, known), false);
            return told(cost < 0 ? -6 : cost);
        }

        int near(int a, int b) {
            if (!isSign(a) || !isSign(b) || now.signs.get(a).size() != now.signs.get(b).size()) {
                return NONE;
            }
            int found = NONE;
            int n = 0;
            for (int s = 0; s < now.signs.get(a).size(); s++) {
                for (int m = 0; m < 4; m++) {
                    if (now.signs.get(a).get(s)[m] != now.signs.get(b).get(s)[m]) {
                        found = s * 4 + m;
                        n++;
                    }
                }
            }
            return n == 1 ? found : NONE;
        }

        int gap(int a, int b) {
            return isSign(a) && isSign(b) ? walk(now.signs.get(a), now.signs.get(b), 0, 0) : NONE;
        }

        int walk(List<int[]> one, List<int[]> two, int i, int j) {
            if (i == one.size() || j == two.size()) {
                return 1000000;
            }
            int own = match(one.get(i), two.get(j));
            if (i + 1 == one.size() && j + 1 == two.size()) {
                return own;
            }
            int least = Math.min(walk(one, two, i + 1, j), walk(one, two, i, j + 1));
            return own + Math.min(least, walk(one, two, i + 1, j + 1));
        }

        int nearest(int sign) {
            int found = NONE;
            for (int s = now.signs.size() - 1; s >= 0 && isSign(sign); s--) {
                if (s != sign && (found == NONE || gap(sign, s) <= gap(sign, found))) {
                    found = s;
                }
            }
            return found;
        }

        int atMark(int sign, int k) {
            List<int[]> s = now.signs.get(sign);
            return k / 4 < s.size() ? s.get(k / 4)[k % 4] : NONE;
        }

        int parting() {
            int best = 65535;
            int signs = now.signs.size();
            int[][] unlike = new int[signs][signs];
            for (int a = 0; a < signs; a++) {
                for (int b = 0; b < signs; b++) {
                    for (int k = 0; k < 16; k++) {
                        unlike[a][b] |= atMark(a, k) != atMark(b, k) ? 1 << k : 0;
                    }
                }
            }
            for (int bits = 65535; bits >= 0; bits--) {
                boolean all = true;
                for (int a = 0; a < signs && all; a++) {
                    for (int b = 0; b < signs && all; b++) {
                        all = unlike[a][b] == 0 || (unlike[a][b] & bits) != 0;
                    }
                }
                if (all && Integer.bitCount(bits) <= Integer.bitCount(best)) {
                    best = bits;
                }
            }
            return best;
        }

        int like(int... marks) {
            if (!seen(marks)) {
                return NONE;
            }
            int bits = 0;
            for (int sign = 0; sign < now.signs.size(); sign++) {
                for (int[] state : now.signs.get(sign)) {
                    boolean all = true;
                    for (int m = 0; m < 4; m++) {
                        all &= marks[m] == NONE || marks[m] == state[m];
                    }
                    bits |= all ? 1 << sign : 0;
                }
            }
            return bits;
        }

        int variant(int concept, int sign) {
            if (!in(concept, 0, 3)) {
                return told(-1);
            }
            List<Integer> held = now.variants.get(concept);
            if (!isSign(sign)) {
                return told(-2);
            }
            if (held.contains(sign)) {
                return told(-4);
            }
            if (held.size() == 4) {
                return told(-5);
            }
            held.add(sign);
            return told(held.size());
        }

        int use(int concept, int sign, int region, int parts) {
            if (!in(concept, 0, 3) || !in(region, 0, 2) || !in(parts, 0, 9)) {
                return told(-1);
            }
            if (!isSign(sign) || !now.variants.get(concept).contains(sign)) {
                return told(-2);
            }
            now.uses[concept][sign][region] = parts;
            return told(0);
        }

        int prior(int region, int parts) {
            if (!in(region, 0, 2) || !in(parts, 1, 100)) {
                return told(-1);
            }
            int was = now.priors[region];
            now.priors[region] = parts;
            return told(was);
        }

        int used(int signer, int concept, int sign, int known) {
            if (!in(signer, 0, 9) || !in(concept, 0, 3) || !in(known, 0, 999)) {
                return told(-1);
            }
            if (!isSign(sign)) {
                return told(-2);
            }
            if (now.useds.size() == 60) {
                return told(-5);
            }
            now.useds.add(new int[] {signer, concept, sign, known});
            return told(now.useds.size());
        }

        int counts(int signer, int concept, int known) {
            if (!in(signer, 0, 9) || !in(concept, 0, 3) || !in(known, 0, 999)) {
                return NONE;
            }
            int found = NONE;
            for (int[] u : now.useds) {
                if (u[0] == signer && u[1] == concept && u[3] <= known) {
                    found = u[2];
                }
            }
            return now.variants.get(concept).contains(found) ? found : NONE;
        }

        /** Odds as fractions {upper, lower}. */
        BigInteger[][] odds(int signer, int known) {
            BigInteger[][] odds = new BigInteger[3][];
            for (int r = 0; r < 3; r++) {
                odds[r] = new BigInteger[] {BigInteger.valueOf(now.priors[r]), BigInteger.ONE};
            }
            for (int c = 0; c < 4; c++) {
                int sign = counts(signer, c, known);
                int[] all = new int[3];
                for (int s = 0; s < 10; s++) {
                    for (int r = 0; r < 3; r++) {
                        all[r] += now.uses[c][s][r];
                    }
                }
                if (sign == NONE || all[0] == 0 || all[1] == 0 || all[2] == 0) {
                    continue;
                }
                for (int r = 0; r < 3; r++) {
                    odds[r][0] = odds[r][0].multiply(BigInteger.valueOf(now.uses[c][sign][r]));
                    odds[r][1] = odds[r][1].multiply(BigInteger.valueOf(all[r]));
                }
            }
            return odds;
        }

        long share(int signer, int region, int known, int what) {
            if (!in(signer, 0, 9) || !in(region, 0, 2) || !in(known, 0, 999) || !in(what, 0, 1)) {
                return NONE;
            }
            BigInteger[][] o = odds(signer, known);
            BigInteger lower = o[0][1].multiply(o[1][1]).multiply(o[2][1]);
            BigInteger all = BigInteger.ZERO;
            for (BigInteger[] one : o) {
                all = all.add(one[0].multiply(lower).divide(one[1]));
            }
            if (all.signum() == 0) {
                return NONE;
            }
            BigInteger part = o[region][0].multiply(lower).divide(o[region][1]);
            BigInteger common = part.gcd(all);
            return (what == 0 ? part : all).divide(common).longValueExact();
        }

        int region(int signer, int known) {
            if (!in(signer, 0, 9) || !in(known, 0, 999)) {
                return NONE;
            }
            BigInteger[][] o = odds(signer, known);
            int best = NONE;
            for (int r = 2; r >= 0; r--) {
                boolean more = best == NONE
                        || o[r][0].multiply(o[best][1]).compareTo(o[best][0].multiply(o[r][1])) >= 0;
                if (o[r][0].signum() > 0 && more) {
                    best = r;
                }
            }
            return best;
        }

        int image(int k) {
            if (!in(k, 0, 1)) {
                return told(-1);
            }
            images[k] = now.copy();
            return told(0);
        }

        int back(int k) {
            if (!in(k, 0, 1)) {
                return told(-1);
            }
            if (images[k] == null) {
                return told(-2);
            }
            now = images[k].copy();
            return told(0);
        }

        int count(int what) {
            int[] all = {now.signs.size(), now.rules.size(), now.sights.size(), now.useds.size(), tape.size()};
            return in(what, 0, 4) ? all[what] : NONE;
        }
    }

    static final class Label {
        final int cost;
        final String row;

        Label(int cost, String row) {
            this.cost = cost;
            this.row = row;
        }

        boolean isBefore(Label other) {
            if (other == null || cost != other.cost) {
                return other == null || cost < other.cost;
            }
            if (row.length() != other.row.length()) {
                return row.length() < other.row.length();
            }
            return row.compareTo(other.row) < 0;
        }
    }

    static final class Run {
        final int seed;
        final Random random;
        final HandTongue hands = new HandTongue();
        final Model model = new Model();
        final StringBuilder story = new StringBuilder();
        final int mostSigns;
        final int mostFrame;
        final int days;
        final int odd;
        int left = 512;

        Run(int seed) {
            this.seed = seed;
            random = new Random(seed * 7919L);
            mostSigns = seed % 8 == 0 ? 10 : 1 + random.nextInt(random.nextInt(4) == 0 ? 10 : 4);
            mostFrame = random.nextInt(3) == 0 ? 20 : 4 + random.nextInt(4);
            days = 1 + random.nextInt(6);
            odd = 4 + random.nextInt(60);
        }

        void due(String call, long got, long want) {
            calls++;
            left--;
            story.append(call).append(" = ").append(got).append('\n');
            if (got != want && wrong < 10) {
                wrong++;
                System.out.println("seed " + seed + ": " + call + " answered " + got + ", due is " + want);
                if (wrong == 1) {
                    System.out.println(story);
                }
            }
        }

        /** A number below a bound; now and then one that can't be. */
        int n(int bound) {
            if (random.nextInt(odd) == 0) {
                int[] odds = {-1, -2, bound, bound + 1, Integer.MIN_VALUE, Integer.MAX_VALUE, 1000, 31};
                return odds[random.nextInt(odds.length)];
            }
            return random.nextInt(Math.max(1, bound));
        }

        int noneOr(int bound) {
            return random.nextInt(3) == 0 ? NONE : n(bound);
        }

        int anySign() {
            return n(Math.max(1, model.now.signs.size()));
        }

        void feed(String text) {
            int from = 0;
            int start = model.tape.size();
            while (from < text.length() && left > 5) {
                int[] five = new int[5];
                for (int i = 0; i < 20; i++) {
                    int one = from + i < text.length() ? text.charAt(from + i) : random.nextInt(256);
                    five[i / 4] |= one << 24 - 8 * (i % 4);
                }
                due("feed", hands.feed(five[0], five[1], five[2], five[3], five[4]), model.feed(five));
                from += 20;
            }
            if (random.nextInt(40) != 0) {
                due("end", hands.end(start + text.length()), model.end(start + text.length()));
            }
        }

        String blank() {
            return random.nextInt(3) == 0 ? "  ".substring(random.nextInt(2)) : "";
        }

        String signText() {
            StringBuilder text = new StringBuilder();
            int states = 1 + random.nextInt(random.nextInt(3) == 0 ? 5 : 2);
            boolean few = random.nextBoolean();
            for (int i = 0; i < states; i++) {
                text.append(i > 0 ? "/" : "").append(blank());
                for (int j = 0; j < 5; j++) {
                    text.append(few && random.nextInt(4) > 0 ? 0 : random.nextInt(3));
                }
                int marks = random.nextInt(4);
                for (int j = 0; j < marks; j++) {
                    int mark = random.nextInt(3);
                    int value = random.nextInt(few ? 3 : new int[] {20, 8, 10}[mark]);
                    text.append(blank()).append("pto".charAt(mark)).append(blank()).append(value).append(blank());
                }
            }
            return spoil(text.toString());
        }

        String spoil(String text) {
            if (random.nextInt(6) != 0 || text.isEmpty()) {
                return text;
            }
            int at = random.nextInt(text.length());
            String[] odds = {"", " ", "/", "p", "99", "3", ";", "(", ")", "end", "not ", "\u0000", "\u00e9", " do ", "<"};
            return text.substring(0, at) + odds[random.nextInt(odds.length)] + text.substring(at + random.nextInt(2));
        }

        String pick(String... words) {
            return words[random.nextInt(words.length)];
        }

        String side() {
            return pick("end", "begin") + " ";
        }

        String value() {
            switch (random.nextInt(5)) {
                case 0:
                    return random.nextInt(8) + " ";
                case 1:
                    return random.nextInt(random.nextBoolean() ? 1100 : 243) + " ";
                case 2:
                    return side() + "states ";
                default:
                    return side() + pick("shape ", "place ", "turn ", "other ");
            }
        }

        String test(int depth) {
            StringBuilder text = new StringBuilder();
            int parts = 1 + random.nextInt(3);
            for (int i = 0; i < parts; i++) {
                text.append(i > 0 ? pick("and ", "or ") : "");
                while (random.nextInt(5) == 0) {
                    text.append("not ");
                }
                if (random.nextInt(4) == 0 && depth < 8) {
                    text.append("(").append(test(depth + 1)).append(") ");
                } else {
                    text.append(value()).append(pick("<", ">", "=")).append(blank()).append(value());
                }
            }
            return text.toString();
        }

        String act() {
            if (random.nextInt(3) == 0) {
                return "drop " + side();
            }
            return "set " + side() + pick("shape ", "place ", "turn ", "other ") + value();
        }

        String rulesText() {
            switch (random.nextInt(14)) {
                case 0:
                    return " ".repeat(random.nextInt(4));
                case 1:
                    return "do drop end;".repeat(10 + random.nextInt(4)) + "do drop end";
                case 2:
                    return "do drop end" + ",drop end".repeat(38 + random.nextInt(3));
                case 3:
                    return "if 1=1" + pick("and ", "or ").repeat(1) + "1<2 and 3>2".repeat(1) + " do drop begin";
                case 4:
                    return "if 0=0" + (random.nextBoolean() ? "or1<0" : "or 0>1").repeat(38 + random.nextInt(3))
                            + "do drop begin";
                case 5:
                    int deep = 5 + random.nextInt(3);
                    return "if " + "(".repeat(deep) + "1=1" + ")".repeat(deep) + "do drop begin";
                default:
                    break;
            }
            StringBuilder text = new StringBuilder();
            int rules = 1 + random.nextInt(4);
            for (int i = 0; i < rules; i++) {
                text.append(i > 0 ? ";" : "");
                text.append(random.nextInt(3) == 0 ? "" : "if " + test(0)).append("do ").append(act());
                while (random.nextInt(3) == 0) {
                    text.append(",").append(act());
                }
            }
            String all = text.toString();
            return spoil(all.length() > 380 ? all.substring(0, 380) : all);
        }

        void go() {
            due("best(-1)", hands.best(-1), model.best(-1));
            if (seed % 8 == 0) {
                fillBook();
            }
            if (seed % 4 == 2) {
                seams();
            }
            while (left > 60 && wrong < 10) {
                switch (random.nextInt(8)) {
                    case 0:
                        texts();
                        break;
                    case 1:
                        settings();
                        break;
                    case 2:
                    case 3:
                        watchers();
                        break;
                    case 4:
                        readings();
                        break;
                    case 5:
                        book();
                        break;
                    case 6:
                        folk();
                        break;
                    default:
                        images();
                        break;
                }
                due("status()", hands.status(), model.status);
            }
        }

        /** Else hardly any run is long enough to reach the refusal of an eleventh sign. */
        void fillBook() {
            for (int i = 0; i < 20 && model.now.signs.size() < mostSigns; i++) {
                feed(signText());
                due("sign()", hands.sign(), model.sign());
            }
        }

        /** Readings of rows whose surfaces depend on both neighbours, which random texts seldom make. */
        void seams() {
            fillBook();
            while (left > 120 && wrong < 10) {
                String text = seamText();
                feed(text);
                due("rules() of " + text, hands.rules(), model.rules());
                watchers();
                watchers();
                readings();
                readings();
                settings();
            }
        }

        String seamText() {
            StringBuilder text = new StringBuilder();
            int rules = 1 + random.nextInt(4);
            for (int i = 0; i < rules; i++) {
                String mark = pick("shape", "place", "turn", "other", "states");
                String other = pick("shape ", "place ", "turn ", "other ");
                text.append(i > 0 ? ";" : "");
                if (random.nextInt(3) > 0) {
                    text.append("if ").append(pick("", "not ")).append("end ").append(mark).append(pick("<", ">", "="))
                            .append(pick("begin " + mark, "" + random.nextInt(3))).append(" ");
                }
                text.append("do ").append(pick("drop end", "drop begin", "set end " + other + "begin " + other,
                        "set begin " + other + "end " + other, "set end " + other + random.nextInt(5),
                        "set begin " + other + random.nextInt(5), "set end turn begin states,set begin turn end states"));
            }
            return text.toString();
        }

        void texts() {
            boolean full = model.now.signs.size() >= mostSigns;
            if (!full || random.nextInt(mostSigns == 10 ? 3 : 12) == 0) {
                String text = signText();
                feed(text);
                due("sign() of " + text, hands.sign(), model.sign());
            } else {
                String text = rulesText();
                feed(text);
                due("rules() of " + text, hands.rules(), model.rules());
            }
            due("fault()", hands.fault(), model.fault);
            int what = random.nextInt(6);
            due("count " + what, hands.count(what), model.count(what));
            for (int i = 0; i < 6; i++) {
                int a = noneOr(model.now.signs.size());
                int b = anySign();
                int c = noneOr(model.now.signs.size());
                int state = n(4) - random.nextInt(2);
                int mark = n(4);
                due("surface(" + a + ", " + b + ", " + c + ", " + state + ", " + mark + ")",
                        hands.surface(a, b, c, state, mark), model.surface(a, b, c, state, mark));
                due("mark", hands.mark(b, state, mark), model.mark(b, state, mark));
            }
        }

        void settings() {
            int place = n(20);
            int x = n(21);
            int y = n(21);
            due("place(" + place + ", " + x + ", " + y + ")", hands.place(place, x, y), model.place(place, x, y));
            int mark = n(4);
            int weight = n(random.nextBoolean() ? 3 : 21);
            due("weight(" + mark + ", " + weight + ")", hands.weight(mark, weight), model.weight(mark, weight));
            int slide = n(random.nextBoolean() ? 5 : 1001);
            int price = n(random.nextInt(3) > 0 ? 5 : 1001);
            due("prices(" + slide + ", " + price + ")", hands.prices(slide, price), model.prices(slide, price));
            mark = n(4);
            int a = n(new int[] {243, 20, 8, 10}[mark & 3]);
            int b = n(new int[] {243, 20, 8, 10}[mark & 3]);
            due("distance(" + mark + ", " + a + ", " + b + ")", hands.distance(mark, a, b), model.distance(mark, a, b));
        }

        void watchers() {
            for (int i = 0; i < 3; i++) {
                int w = n(2);
                int f = n(mostFrame);
                int s = noneOr(random.nextBoolean() ? 3 : 243);
                int p = noneOr(20);
                int t = noneOr(8);
                int o = noneOr(10);
                int known = n(days);
                due("sight(" + w + ", " + f + ", " + s + ", " + p + ", " + t + ", " + o + ", " + known + ")",
                        hands.sight(w, f, s, p, t, o, known), model.sight(w, f, s, p, t, o, known));
            }
            if (random.nextInt(4) == 0) {
                int w = n(2);
                int trust = n(101);
                due("trust(" + w + ", " + trust + ")", hands.trust(w, trust), model.trust(w, trust));
            }
            int f = n(mostFrame);
            int mark = n(4);
            int known = n(days);
            due("joined(" + f + ", " + mark + ", " + known + ")", hands.joined(f, mark, known),
                    model.joined(f, mark, known));
            int to = n(mostFrame);
            due("clashes(" + f + ", " + to + ", " + known + ")", hands.clashes(f, to, known),
                    model.clashes(f, to, known));
        }

        void readings() {
            int a = random.nextInt(mostFrame);
            int b = random.nextInt(mostFrame);
            int from = random.nextInt(odd) == 0 ? n(20) : Math.min(a, b);
            int to = random.nextInt(odd) == 0 ? n(20) : Math.max(a, b);
            int known = n(days);
            String span = from + ", " + to + ", " + known + ")";
            due("read(" + span, hands.read(from, to, known), model.read(from, to, known));
            int signs = model.bestRow.length;
            due("best(-1)", hands.best(-1), model.best(-1));
            for (int i = 0; i < signs + 1; i++) {
                due("best(" + i + ")", hands.best(i), model.best(i));
            }
            for (int f = from; f <= to && f < 20 && f >= 0; f++) {
                due("led(" + f + ", 0)", hands.led(f, 0), model.led(f, 0));
                due("led(" + f + ", 1)", hands.led(f, 1), model.led(f, 1));
            }
            int odd = n(20);
            int what = n(2);
            due("led(" + odd + ", " + what + ")", hands.led(odd, what), model.led(odd, what));
            int one = anySign();
            int two = noneOr(model.now.signs.size());
            int three = noneOr(model.now.signs.size());
            due("cost(" + one + ", " + two + ", " + three + ", " + span, hands.cost(one, two, three, from, to, known),
                    model.cost(one, two, three, from, to, known));
            int n = n(random.nextBoolean() ? 6 : 201);
            if (Model.rowsOf(model.now.signs.size(), to - from + 1) <= 3000) {
                due("rivals(" + n + ", " + span, hands.rivals(from, to, known, n), model.rivals(from, to, known, n));
                return;
            }
            n = random.nextInt(8);
            int many = model.rivalsOfMany(from, to, known, n);
            if (many != Model.UNKNOWN) {
                longRivals++;
                due("rivals(" + n + ", " + span, hands.rivals(from, to, known, n), many);
            }
        }

        void book() {
            int a = anySign();
            int b = anySign();
            due("near(" + a + ", " + b + ")", hands.near(a, b), model.near(a, b));
            due("gap(" + a + ", " + b + ")", hands.gap(a, b), model.gap(a, b));
            due("nearest(" + a + ")", hands.nearest(a), model.nearest(a));
            if (random.nextInt(4) == 0) {
                due("parting()", hands.parting(), model.parting());
            }
            int s = noneOr(random.nextBoolean() ? 3 : 243);
            int p = noneOr(4);
            int t = noneOr(4);
            int o = noneOr(4);
            due("like(" + s + ", " + p + ", " + t + ", " + o + ")", hands.like(s, p, t, o), model.like(s, p, t, o));
        }

        void folk() {
            int concept = n(4);
            int sign = anySign();
            int region = n(3);
            int parts = n(10);
            int known = n(days);
            int signer = n(3);
            due("variant(" + concept + ", " + sign + ")", hands.variant(concept, sign), model.variant(concept, sign));
            for (int r = 0; r < 3; r++) {
                due("use(" + concept + ", " + sign + ", " + r + ", " + parts + ")",
                        hands.use(concept, sign, r, parts), model.use(concept, sign, r, parts));
                parts = n(10);
            }
            if (random.nextInt(3) == 0) {
                due("prior(" + region + ", " + parts + ")", hands.prior(region, parts), model.prior(region, parts));
            }
            sign = anySign();
            due("used(" + signer + ", " + concept + ", " + sign + ", " + known + ")",
                    hands.used(signer, concept, sign, known), model.used(signer, concept, sign, known));
            due("counts(" + signer + ", " + concept + ", " + known + ")", hands.counts(signer, concept, known),
                    model.counts(signer, concept, known));
            due("share(" + signer + ", " + region + ", " + known + ", 0)", hands.share(signer, region, known, 0),
                    model.share(signer, region, known, 0));
            due("share(" + signer + ", " + region + ", " + known + ", 1)", hands.share(signer, region, known, 1),
                    model.share(signer, region, known, 1));
            due("region(" + signer + ", " + known + ")", hands.region(signer, known), model.region(signer, known));
        }

        void images() {
            if (random.nextInt(4) != 0) {
                return;
            }
            int k = n(2);
            if (random.nextBoolean()) {
                due("image(" + k + ")", hands.image(k), model.image(k));
            } else {
                due("back(" + k + ")", hands.back(k), model.back(k));
            }
            for (int what = 0; what < 5; what++) {
                due("count(" + what + ")", hands.count(what), model.count(what));
            }
            due("fault()", hands.fault(), model.fault);
        }
    }
}
