import java.util.ArrayList;
import java.util.Arrays;
import java.util.List;
import java.util.NoSuchElementException;
import java.util.Random;
import java.util.TreeSet;

/**
 * Random runs of calls on the class and on a model of the document that takes its words one by one,
 * with sets of the Java library; every answer is compared. The runs are the same each time.
 */
public final class ModelTests {
    private static final int RUNS = 1000;
    private static final int CALLS = 512;

    /** Grammars that have tables: t, n, then for each production its left symbol and right side. */
    private static final int[][][] KNOWN = {
        // S: C C; C: c C; C: d.
        {{2, 2}, {2, 3, 3}, {3, 0, 3}, {3, 1}},
        // E: E + T; E: T; T: T * F; T: F; F: ( E ); F: i.
        {{5, 3}, {5, 5, 0, 6}, {5, 6}, {6, 6, 1, 7}, {6, 7}, {7, 2, 5, 3}, {7, 4}},
        // S: L = R; S: R; L: * R; L: i; R: L.
        {{3, 3}, {3, 4, 0, 5}, {3, 5}, {4, 1, 5}, {4, 2}, {5, 4}},
        // S: a A d; S: b B d; S: a B e; S: b A e; A: c; B: c.
        {{5, 3}, {5, 0, 6, 3}, {5, 1, 7, 3}, {5, 0, 7, 4}, {5, 1, 6, 4}, {6, 2}, {7, 2}},
        // S: x S; S: nothing.
        {{1, 1}, {1, 0, 1}, {1}},
        // S: S x; S: nothing.
        {{1, 1}, {1, 1, 0}, {1}},
        // S: A B c; A: a; A: nothing; B: b; B: nothing.
        {{3, 3}, {3, 4, 5, 2}, {4, 0}, {4}, {5, 1}, {5}},
        // S: ( S ) S; S: nothing.
        {{2, 1}, {2, 0, 2, 1, 2}, {2}},
        // S: A B C; A: A; A: nothing; B: a; C has none: reductions without end.
        {{1, 4}, {1, 2, 3, 4}, {2, 2}, {2}, {3, 0}},
        // A: B A d; A: E F; B: nothing; E: y; F has none: a stack without end.
        {{2, 4}, {2, 3, 2, 0}, {2, 4, 5}, {3}, {4, 1}},
        // S: A A A A; A: B B B; B: nothing.
        {{1, 3}, {1, 2, 2, 2, 2}, {2, 3, 3, 3}, {3}},
        // S: x A y; S: z A w; A: 26 times a: sixty states.
        {{5, 2}, {5, 0, 6, 1}, {5, 2, 6, 3}, {6, 4, 4, 4, 4, 4, 4, 4, 4, 4, 4, 4, 4, 4, 4, 4, 4, 4, 4,
            4, 4, 4, 4, 4, 4, 4, 4}},
    };

    public static void main(String[] args) {
        int[] kinds = new int[8];
        for (int run = 0; run < RUNS; run++) {
            if (!new Run(run, kinds).isRight()) {
                System.exit(1);
            }
        }
        System.out.println("tables " + kinds[0] + ", conflicts " + kinds[1] + ", too many states "
                + kinds[2] + ", accepted " + kinds[3] + ", refused " + kinds[4] + ", endless "
                + kinds[5] + ", full stacks " + kinds[6]);
        for (int i = 0; i < 7; i++) {
            if (kinds[i] < 20) {
                System.out.println("too few of kind " + i);
                System.exit(1);
            }
        }
        System.out.println("class and model agree");
    }

    /** One run: a class's object and a model's, given the same calls. */
    private static final class Run {
        private final Random random;
        private final int[] kinds;
        private final TableMaker x;
        private final Model model;
        private final List<String> log = new ArrayList<>();
        // Such a run reads long rows: it begins and ends them seldom.
        private final boolean patient;
        private boolean right = true;

        Run(int seed, int[] kinds) {
            random = new Random(seed);
            this.kinds = kinds;
            patient = seed % 2 == 0;
            int[][] known = seed % 3 == 0 ? KNOWN[random.nextInt(KNOWN.length)] : null;
            int t = known != null ? known[0][0] : random.nextInt(9);
            int n = known != null ? known[0][1] : random.nextInt(8);
            x = new TableMaker(t, n);
            model = new Model(t, n);
            log.add("new " + t + " " + n);
            if (known != null) {
                writeKnown(known);
            }
        }

        boolean isRight() {
            while (right && log.size() < CALLS) {
                next();
            }
            return right;
        }

        private void writeKnown(int[][] known) {
            for (int i = 1; i < known.length; i++) {
                call(0, known[i][0]);
                for (int k = 1; k < known[i].length; k++) {
                    call(1, known[i][k]);
                }
            }
            call(4);
        }

        private void next() {
            int dice = random.nextInt(100);
            if (dice < 20) {
                call(wildCall(), wild(), wild(), wild());
            } else if (model.table) {
                nextWithTable(dice);
            } else {
                nextWithoutTable(dice);
            }
        }

        private void nextWithTable(int dice) {
            if (dice < 22 && !(patient && random.nextInt(10) != 0)) {
                call(random.nextInt(5), wild());
            } else if (dice < 50) {
                ask();
            } else if (model.phase != 1) {
                call(13);
            } else if (dice < 90 || patient && random.nextInt(20) != 0) {
                call(14, likelyToken());
            } else {
                call(dice < 93 ? 13 : 15);
            }
        }

        private void nextWithoutTable(int dice) {
            if (dice < 23) {
                call(2 + random.nextInt(2));
            } else if (dice < 40) {
                call(4);
            } else if (dice < 60) {
                call(0, model.t + random.nextInt(model.n));
            } else if (dice < 62) {
                call(random.nextInt(2), wild());
            } else {
                call(1, random.nextInt(model.t + model.n));
            }
        }

        private int wildCall() {
            int which = 5 + random.nextInt(16);
            boolean spoilsRow = which >= 13 && which <= 15;
            return patient && spoilsRow && random.nextInt(20) != 0 ? 17 : which;
        }

        private void ask() {
            int state = random.nextInt(model.states.size());
            int which = random.nextInt(4);
            if (which == 0) {
                call(7, state);
            } else if (which == 1) {
                call(8, state, random.nextInt(model.states.get(state).size()), random.nextInt(3));
            } else if (which == 2) {
                call(9, state, random.nextInt(model.t + model.n + 1));
            } else {
                call(10, state, model.t + random.nextInt(model.n));
            }
        }

        private int likelyToken() {
            int begin = random.nextInt(model.t);
            int top = model.stack.get(model.stack.size() - 1);
            for (int i = 0; i < model.t && random.nextInt(patient ? 1000 : 20) != 0; i++) {
                int token = (begin + i) % model.t;
                if (model.actions(top, token).size() > 0) {
                    return token;
                }
            }
            return begin;
        }

        private int wild() {
            int dice = random.nextInt(20);
            if (dice == 0) {
                return random.nextInt();
            }
            return random.nextInt(dice < 5 ? 70 : 12) - 2;
        }

        private void call(int which, int... given) {
            int[] a = Arrays.copyOf(given, 3);
            boolean wasBegun = model.phase == 1;
            String want;
            String got;
            try {
                want = "" + model.call(which, a);
            } catch (RuntimeException e) {
                want = e.getClass().getSimpleName();
            }
            try {
                got = "" + callClass(which, a);
            } catch (RuntimeException e) {
                got = e.getClass().getSimpleName();
            }
            log.add(NAMES[which] + Arrays.toString(a) + " " + got);
            if (!want.equals(got)) {
                right = false;
                System.out.println("due is " + want + " at the end of\n" + String.join("\n", log));
            }
            countKind(which, want, wasBegun);
            if (model.endless) {
                // What is left on the stack and used is free: a new row begins.
                kinds[5]++;
                model.endless = false;
                call(13);
            }
        }

        private void countKind(int which, String want, boolean wasBegun) {
            if (which == 4) {
                kinds[0] += Character.isDigit(want.charAt(0)) ? 1 : 0;
                kinds[1] += want.startsWith("Unsupported") ? 1 : 0;
                kinds[2] += want.startsWith("Arithmetic") ? 1 : 0;
            }
            kinds[3] += wasBegun && model.phase == 2 ? 1 : 0;
            kinds[4] += wasBegun && model.phase == 3 ? 1 : 0;
            kinds[6] += which == 14 && wasBegun && want.startsWith("IllegalState") ? 1 : 0;
        }

        private long callClass(int which, int[] a) {
            switch (which) {
                case 0: return x.production(a[0]);
                case 1: x.symbol(a[0]); return 0;
                case 2: x.open(); return 0;
                case 3: x.clear(); return 0;
                case 4: return x.build();
                case 5: return x.conflict(a[0]);
                case 6: return x.states();
                case 7: return x.items(a[0]);
                case 8: return x.item(a[0], a[1], a[2]);
                case 9: return x.action(a[0], a[1]);
                case 10: return x.follow(a[0], a[1]);
                case 11: return x.nullable(a[0]) ? 1 : 0;
                case 12: return x.first(a[0]);
                case 13: x.begin(); return 0;
                case 14: return x.feed(a[0]) ? 1 : 0;
                case 15: return x.finish() ? 1 : 0;
                case 16: return x.state();
                case 17: return x.depth();
                case 18: return x.used();
                case 19: return x.use(a[0]);
                default: return TableMaker.NONE;
            }
        }
    }

    private static final String[] NAMES = {"production", "symbol", "open", "clear", "build",
        "conflict", "states", "items", "item", "action", "follow", "nullable", "first", "begin",
        "feed", "finish", "state", "depth", "used", "use", "NONE"};

    /** An item (p, d, a), in the order of the document. */
    private record Item(int p, int d, int a) implements Comparable<Item> {
        @Override
        public int compareTo(Item o) {
            if (p != o.p) {
                return Integer.compare(p, o.p);
            }
            return d != o.d ? Integer.compare(d, o.d) : Integer.compare(a, o.a);
        }
    }

    /** The document, word by word. */
    private static final class Model {
        final int t;
        final int n;
        final int end;
        final List<List<Integer>> rights = new ArrayList<>();
        final List<Integer> lefts = new ArrayList<>();
        boolean table;
        List<TreeSet<Item>> states = new ArrayList<>();
        List<int[]> gotos = new ArrayList<>();
        int conflictState = -1;
        int conflictSymbol = -1;
        List<Integer> stack = new ArrayList<>();
        List<Integer> used = new ArrayList<>();
        int phase;
        boolean endless;

        Model(int t, int n) {
            this.t = t < 1 || t > 7 ? 3 : t;
            this.n = n < 1 || n > 6 ? 2 : n;
            end = this.t + this.n;
        }

        long call(int which, int[] a) {
            switch (which) {
                case 0: return production(a[0]);
                case 1: return symbol(a[0]);
                case 2: return open();
                case 3: return clear();
                case 4: return build();
                case 5: return a[0] == 0 ? conflictState : a[0] == 1 ? conflictSymbol : -1;
                case 6: return table ? states.size() : 0;
                case 7: return stateOf(a[0]).size();
                case 8: return item(a[0], a[1], a[2]);
                case 9: return action(a[0], a[1]);
                case 10: return follow(a[0], a[1]);
                case 11: return nullables().contains(nonterminal(a[0])) ? 1 : 0;
                case 12: return bits(firstOf(nonterminal(a[0])));
                case 13: return begin();
                case 14: return feed(a[0]);
                case 15: return finish();
                case 16: return phase;
                case 17: return stack.size();
                case 18: return used.size();
                case 19: return use(a[0]);
                default: return -1;
            }
        }

        long production(int left) {
            nonterminal(left);
            if (table || lefts.size() == 14) {
                throw new IllegalStateException();
            }
            lefts.add(left);
            rights.add(new ArrayList<>());
            conflictState = -1;
            conflictSymbol = -1;
            return lefts.size() - 1;
        }

        long symbol(int s) {
            if (s < 0 || s >= end) {
                throw new IllegalArgumentException();
            }
            int count = 0;
            for (List<Integer> right : rights) {
                count += right.size();
            }
            if (table || lefts.isEmpty() || count == 40) {
                throw new IllegalStateException();
            }
            rights.get(rights.size() - 1).add(s);
            conflictState = -1;
            conflictSymbol = -1;
            return 0;
        }

        long open() {
            table = false;
            phase = 0;
            stack.clear();
            used.clear();
            return 0;
        }

        long clear() {
            open();
            lefts.clear();
            rights.clear();
            conflictState = -1;
            conflictSymbol = -1;
            return 0;
        }

        int nonterminal(int s) {
            if (s < t || s >= end) {
                throw new IllegalArgumentException();
            }
            return s;
        }

        TreeSet<Integer> nullables() {
            TreeSet<Integer> found = new TreeSet<>();
            for (int round = 0; round <= n; round++) {
                for (int p = 0; p < lefts.size(); p++) {
                    if (found.containsAll(rights.get(p))) {
                        found.add(lefts.get(p));
                    }
                }
            }
            return found;
        }

        /** By what can come to stand at the beginning, one symbol after the other. */
        TreeSet<Integer> firstOf(int s) {
            TreeSet<Integer> empty = nullables();
            List<Integer> reached = new ArrayList<>(List.of(s));
            for (int i = 0; i < reached.size(); i++) {
                for (int p = 0; p < lefts.size(); p++) {
                    if (!lefts.get(p).equals(reached.get(i))) {
                        continue;
                    }
                    for (int x : rights.get(p)) {
                        if (!reached.contains(x)) {
                            reached.add(x);
                        }
                        if (!empty.contains(x)) {
                            break;
                        }
                    }
                }
            }
            TreeSet<Integer> found = new TreeSet<>(reached);
            found.removeIf(x -> x >= t && x < end);
            return found;
        }

        static int bits(TreeSet<Integer> set) {
            int found = 0;
            for (int x : set) {
                found |= 1 << x;
            }
            return found;
        }

        List<Integer> right(int p) {
            return p == -1 ? List.of(lefts.get(0)) : rights.get(p);
        }

        boolean isDone(Item i) {
            return i.d == right(i.p).size();
        }

        TreeSet<Item> closure(TreeSet<Item> begin, TreeSet<Integer> empty,
                List<TreeSet<Integer>> firsts) {
            List<Item> found = new ArrayList<>(begin);
            TreeSet<Item> all = new TreeSet<>(begin);
            for (int i = 0; i < found.size(); i++) {
                Item item = found.get(i);
                if (isDone(item) || right(item.p).get(item.d) < t) {
                    continue;
                }
                TreeSet<Integer> ahead = new TreeSet<>();
                List<Integer> rest = new ArrayList<>(right(item.p));
                rest.add(item.a);
                for (int k = item.d + 1; k < rest.size(); k++) {
                    ahead.addAll(firsts.get(rest.get(k)));
                    if (!empty.contains(rest.get(k))) {
                        break;
                    }
                }
                for (int q = 0; q < lefts.size(); q++) {
                    for (int b : ahead) {
                        Item next = new Item(q, 0, b);
                        if (lefts.get(q).equals(right(item.p).get(item.d)) && all.add(next)) {
                            found.add(next);
                        }
                    }
                }
            }
            return all;
        }

        long build() {
            if (table || lefts.isEmpty()) {
                throw new IllegalStateException();
            }
            conflictState = -1;
            conflictSymbol = -1;
            collect();
            if (states.size() > 60) {
                throw new ArithmeticException();
            }
            for (int s = 0; s < states.size(); s++) {
                for (int a = 0; a <= end; a++) {
                    if ((a < t || a == end) && actions(s, a).size() > 1) {
                        conflictState = s;
                        conflictSymbol = a;
                        throw new UnsupportedOperationException();
                    }
                }
            }
            table = true;
            return states.size();
        }

        void collect() {
            TreeSet<Integer> empty = nullables();
            List<TreeSet<Integer>> firsts = new ArrayList<>();
            for (int s = 0; s <= end; s++) {
                firsts.add(firstOf(s));
            }
            states = new ArrayList<>();
            gotos = new ArrayList<>();
            states.add(closure(new TreeSet<>(List.of(new Item(-1, 0, end))), empty, firsts));
            for (int s = 0; s < states.size() && states.size() <= 60; s++) {
                int[] row = new int[end];
                gotos.add(row);
                for (int x = 0; x < end; x++) {
                    TreeSet<Item> moved = new TreeSet<>();
                    for (Item i : states.get(s)) {
                        if (!isDone(i) && right(i.p).get(i.d) == x) {
                            moved.add(new Item(i.p, i.d + 1, i.a));
                        }
                    }
                    row[x] = -1;
                    if (!moved.isEmpty()) {
                        TreeSet<Item> closed = closure(moved, empty, firsts);
                        if (!states.contains(closed)) {
                            states.add(closed);
                        }
                        row[x] = states.indexOf(closed);
                    }
                }
            }
        }

        /** All different actions of a state. */
        TreeSet<Integer> actions(int state, int a) {
            TreeSet<Integer> found = new TreeSet<>();
            if (a < t && gotos.get(state)[a] >= 0) {
                found.add(gotos.get(state)[a] + 1);
            }
            for (Item i : states.get(state)) {
                if (i.a == a && isDone(i)) {
                    found.add(i.p == -1 ? 1000 : -1 - i.p);
                }
            }
            return found;
        }

        int actionOf(int state, int a) {
            TreeSet<Integer> all = actions(state, a);
            return all.isEmpty() ? 0 : all.first();
        }

        TreeSet<Item> stateOf(int state) {
            if (!table || state < 0 || state >= states.size()) {
                throw new NoSuchElementException();
            }
            return states.get(state);
        }

        long item(int state, int k, int what) {
            List<Item> all = new ArrayList<>(stateOf(state));
            if (k < 0 || k >= all.size() || what < 0 || what > 2) {
                throw new NoSuchElementException();
            }
            Item i = all.get(k);
            return what == 0 ? i.p : what == 1 ? i.d : i.a;
        }

        long action(int state, int a) {
            stateOf(state);
            if (a < 0 || a > end || a >= t && a < end) {
                throw new NoSuchElementException();
            }
            return actionOf(state, a);
        }

        long follow(int state, int s) {
            stateOf(state);
            if (s < t || s >= end) {
                throw new NoSuchElementException();
            }
            return gotos.get(state)[s];
        }

        long begin() {
            if (!table) {
                throw new IllegalStateException();
            }
            open();
            table = true;
            phase = 1;
            stack.add(0);
            return 0;
        }

        long feed(int token) {
            if (token < 0 || token >= t) {
                throw new IllegalArgumentException();
            }
            if (phase != 1 || stack.size() >= 60) {
                throw new IllegalStateException();
            }
            return read(token);
        }

        long finish() {
            if (phase != 1) {
                throw new IllegalStateException();
            }
            return read(end);
        }

        long read(int a) {
            for (int step = 0; step < 5000; step++) {
                int action = actionOf(stack.get(stack.size() - 1), a);
                if (action == 1000) {
                    phase = 2;
                    return 1;
                }
                if (action == 0) {
                    phase = 3;
                    return 0;
                }
                if (action > 0) {
                    stack.add(action - 1);
                    return 1;
                }
                int p = -1 - action;
                for (int i = 0; i < rights.get(p).size(); i++) {
                    stack.remove(stack.size() - 1);
                }
                stack.add(gotos.get(stack.get(stack.size() - 1))[lefts.get(p)]);
                used.add(p);
            }
            endless = true;
            phase = 3;
            return 0;
        }

        long use(int k) {
            if (k < 0 || k >= used.size() || k >= 200) {
                throw new NoSuchElementException();
            }
            return used.get(k);
        }
    }
}
