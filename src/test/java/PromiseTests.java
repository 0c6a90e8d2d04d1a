import java.util.NoSuchElementException;

/** At least one test for each promise of the document: ordinary inputs, edges and wrong inputs. */
public final class PromiseTests {
    private static final Class<IllegalArgumentException> ARGUMENT = IllegalArgumentException.class;
    private static final Class<IllegalStateException> STATE = IllegalStateException.class;
    private static final Class<NoSuchElementException> ELEMENT = NoSuchElementException.class;
    private static final Class<ArithmeticException> TOO_MANY = ArithmeticException.class;
    private static final Class<UnsupportedOperationException> CONFLICT =
            UnsupportedOperationException.class;
    private static final int[] WRONG = {Integer.MIN_VALUE, -1000, -2, -1, 1000, Integer.MAX_VALUE};

    private static int wrong = 0;

    public static void main(String[] args) {
        promise1NewObject();
        promise1NewObjectIsEmpty();
        promise2Production();
        promise2RefusedProductionChangesNothing();
        promise3Symbol();
        promise3RefusedSymbolChangesNothing();
        promise4Open();
        promise5Clear();
        promise6Build();
        promise6SixtyStates();
        promise6Conflicts();
        promise7Conflict();
        promise8States();
        promise9Items();
        promise10Item();
        promise10ItemsOfAStateInOrder();
        promise11Action();
        promise12Follow();
        promise13Nullable();
        promise14First();
        closuresWithoutSymbolAhead();
        promise15Begin();
        promise16Feed();
        promise16SixtyStatesOnTheStack();
        promise17Finish();
        promise18State();
        promise19Depth();
        promise20Used();
        promise21Use();
        nestedEmptyRows();
        stackGrowsBeyondSixty();
        reductionsWithoutEnd();
        exampleOfReadme();
        System.out.println(wrong == 0 ? "all promises hold" : wrong + " answers are wrong");
        if (wrong != 0) {
            System.exit(1);
        }
    }

    // ---- helpers

    private static void same(String what, long want, long got) {
        if (want != got) {
            wrong++;
            System.out.println(what + ": " + got + ", due is " + want);
        }
    }

    private static void same(String what, boolean want, boolean got) {
        same(what, want ? 1 : 0, got ? 1 : 0);
    }

    private static void refuses(String what, Class<? extends RuntimeException> want,
            Runnable call) {
        String got = "nothing";
        try {
            call.run();
        } catch (RuntimeException e) {
            got = e.getClass().getName();
        }
        if (!got.equals(want.getName())) {
            wrong++;
            System.out.println(what + " throws " + got + ", due is " + want.getName());
        }
    }

    /** Each rule: its left symbol and its right side. */
    private static TableMaker grammar(int t, int n, int[]... rules) {
        TableMaker x = new TableMaker(t, n);
        addRules(x, rules);
        return x;
    }

    private static void addRules(TableMaker x, int[]... rules) {
        for (int[] rule : rules) {
            x.production(rule[0]);
            for (int i = 1; i < rule.length; i++) {
                x.symbol(rule[i]);
            }
        }
    }

    private static int[] rule(int... symbols) {
        return symbols;
    }

    private static int[] repeated(int left, int symbol, int times) {
        int[] rule = new int[times + 1];
        java.util.Arrays.fill(rule, symbol);
        rule[0] = left;
        return rule;
    }

    /** S: C C; C: c C; C: d, with c 0, d 1, S 2, C 3, END 4. */
    private static TableMaker pairs() {
        return grammar(2, 2, rule(2, 3, 3), rule(3, 0, 3), rule(3, 1));
    }

    private static TableMaker builtPairs() {
        TableMaker x = pairs();
        x.build();
        return x;
    }

    /** E: E + E; E: E * E; E: i, with + 0, * 1, i 2, E 3, END 4: many conflicts. */
    private static TableMaker ambiguous() {
        return grammar(3, 1, rule(3, 3, 0, 3), rule(3, 3, 1, 3), rule(3, 2));
    }

    /** S: x S; S: nothing, with x 0, S 1, END 2: the stack grows with each x. */
    private static TableMaker growing() {
        TableMaker x = grammar(1, 1, rule(1, 0, 1), rule(1));
        x.build();
        x.begin();
        return x;
    }

    /** S: nothing; S: S x, with x 0, S 1, END 2: a reduction with each x. */
    private static TableMaker flat() {
        TableMaker x = grammar(1, 1, rule(1), rule(1, 1, 0));
        x.build();
        x.begin();
        return x;
    }

    private static boolean isNonterminal(TableMaker x, int s) {
        try {
            x.first(s);
            return true;
        } catch (IllegalArgumentException e) {
            return false;
        }
    }

    private static void sameSizes(String what, TableMaker x, int t, int n) {
        int lowest = 0;
        while (lowest < 30 && !isNonterminal(x, lowest)) {
            lowest++;
        }
        int count = 0;
        for (int s = -1; s < 30; s++) {
            count += isNonterminal(x, s) ? 1 : 0;
        }
        same(what + ", terminals", t, lowest);
        same(what + ", nonterminals", n, count);
    }

    private static void sameItem(TableMaker x, int state, int k, int p, int d, int a) {
        String what = "item " + k + " of state " + state;
        same(what + ", p", p, x.item(state, k, 0));
        same(what + ", d", d, x.item(state, k, 1));
        same(what + ", a", a, x.item(state, k, 2));
    }

    // ---- the grammar

    private static void promise1NewObject() {
        for (int t = 1; t <= 7; t++) {
            for (int n = 1; n <= 6; n++) {
                sameSizes("new " + t + " " + n, new TableMaker(t, n), t, n);
            }
        }
        for (int bad : WRONG) {
            sameSizes("new " + bad + " 4", new TableMaker(bad, 4), 3, 4);
            sameSizes("new 4 " + bad, new TableMaker(4, bad), 4, 2);
        }
        sameSizes("new 0 0", new TableMaker(0, 0), 3, 2);
        sameSizes("new 8 7", new TableMaker(8, 7), 3, 2);
        sameSizes("new 8 6", new TableMaker(8, 6), 3, 6);
        sameSizes("new 7 7", new TableMaker(7, 7), 7, 2);
        same("NONE", -1, TableMaker.NONE);
    }

    private static void promise1NewObjectIsEmpty() {
        TableMaker x = new TableMaker(2, 2);
        same("states of a new object", 0, x.states());
        same("state of a new object", 0, x.state());
        same("depth of a new object", 0, x.depth());
        same("used of a new object", 0, x.used());
        same("conflict of a new object", -1, x.conflict(0));
        same("conflict symbol of a new object", -1, x.conflict(1));
        refuses("build of a new object", STATE, x::build);
        refuses("begin of a new object", STATE, x::begin);
        refuses("feed of a new object", STATE, () -> x.feed(0));
        refuses("finish of a new object", STATE, x::finish);
        refuses("symbol of a new object", STATE, () -> x.symbol(0));
        refuses("items of a new object", ELEMENT, () -> x.items(0));
        refuses("use of a new object", ELEMENT, () -> x.use(0));
        TableMaker y = new TableMaker(2, 2);
        y.production(2);
        same("another object has no production of this one", 0, x.production(3));
    }

    private static void promise2Production() {
        TableMaker x = new TableMaker(3, 2);
        for (int bad : WRONG) {
            refuses("production " + bad, ARGUMENT, () -> x.production(bad));
        }
        refuses("production of a terminal", ARGUMENT, () -> x.production(2));
        refuses("production of END", ARGUMENT, () -> x.production(5));
        for (int p = 0; p < 14; p++) {
            same("production " + p, p, x.production(3 + p % 2));
        }
        refuses("the fifteenth production", STATE, () -> x.production(3));
        refuses("the fifteenth production of no nonterminal", ARGUMENT, () -> x.production(0));
        same("a production without right side", true, x.nullable(4));

        TableMaker y = builtPairs();
        refuses("production with a table", STATE, () -> y.production(2));
        refuses("production of no nonterminal with a table", ARGUMENT, () -> y.production(1));
        y.open();
        same("production when the table is gone", 3, y.production(2));
    }

    private static void promise2RefusedProductionChangesNothing() {
        TableMaker x = new TableMaker(2, 2);
        x.production(2);
        refuses("production of a terminal", ARGUMENT, () -> x.production(0));
        x.symbol(1);
        same("the symbol goes to the production before", 2, x.first(2));
        same("no number was taken", 1, x.production(3));

        TableMaker y = ambiguous();
        refuses("build", CONFLICT, y::build);
        refuses("production of END", ARGUMENT, () -> y.production(4));
        same("the conflict is still told", true, y.conflict(0) > 0);
    }

    private static void promise3Symbol() {
        TableMaker x = new TableMaker(3, 2);
        refuses("symbol without production", STATE, () -> x.symbol(0));
        refuses("no symbol without production", ARGUMENT, () -> x.symbol(5));
        x.production(3);
        for (int bad : WRONG) {
            refuses("symbol " + bad, ARGUMENT, () -> x.symbol(bad));
        }
        refuses("symbol END", ARGUMENT, () -> x.symbol(5));
        same("nothing was added", true, x.nullable(3));
        x.symbol(4);
        x.symbol(0);
        x.production(4);
        same("the second symbol", 1, x.first(3));
        x.symbol(2);
        same("a symbol of the last production", 4, x.first(4));
        same("in the first production, before", 4, x.first(3));

        TableMaker y = builtPairs();
        refuses("symbol with a table", STATE, () -> y.symbol(0));
        refuses("no symbol with a table", ARGUMENT, () -> y.symbol(4));
        refuses("no symbol with a table", ARGUMENT, () -> y.symbol(-1));
    }

    private static void promise3RefusedSymbolChangesNothing() {
        TableMaker x = new TableMaker(1, 1);
        x.production(1);
        for (int i = 0; i < 25; i++) {
            x.symbol(0);
        }
        x.production(1);
        for (int i = 0; i < 15; i++) {
            x.symbol(0);
        }
        refuses("the forty-first symbol", STATE, () -> x.symbol(0));
        refuses("the forty-first, that is none", ARGUMENT, () -> x.symbol(2));
        x.production(1);
        refuses("the forty-first symbol, of another production", STATE, () -> x.symbol(0));
        same("states of rows of 25 and of 15", 27, x.build());
        x.begin();
        for (int i = 0; i < 15; i++) {
            same("token " + i, true, x.feed(0));
        }
        same("a row of 15", true, x.finish());
        same("by its production", 1, x.use(0));

        TableMaker y = ambiguous();
        refuses("build", CONFLICT, y::build);
        refuses("symbol END", ARGUMENT, () -> y.symbol(4));
        same("the conflict is still told", true, y.conflict(0) > 0);
    }

    private static void promise4Open() {
        TableMaker x = builtPairs();
        x.begin();
        x.feed(1);
        x.feed(1);
        same("used before open", 1, x.used());
        x.open();
        same("states after open", 0, x.states());
        same("state after open", 0, x.state());
        same("depth after open", 0, x.depth());
        same("used after open", 0, x.used());
        refuses("use after open", ELEMENT, () -> x.use(0));
        refuses("items after open", ELEMENT, () -> x.items(0));
        refuses("item after open", ELEMENT, () -> x.item(0, 0, 0));
        refuses("action after open", ELEMENT, () -> x.action(0, 0));
        refuses("follow after open", ELEMENT, () -> x.follow(0, 2));
        refuses("feed after open", STATE, () -> x.feed(1));
        refuses("finish after open", STATE, x::finish);
        refuses("begin after open", STATE, x::begin);
        same("the grammar stays", 3, x.first(2));
        x.open();
        same("build after open", 10, x.build());

        TableMaker y = ambiguous();
        refuses("build", CONFLICT, y::build);
        int state = y.conflict(0);
        y.open();
        same("the conflict stays", state, y.conflict(0));
        same("the conflict's symbol stays", 0, y.conflict(1));
        TableMaker z = new TableMaker(1, 1);
        z.open();
        same("open of a new object", 0, z.production(1));
    }

    private static void promise5Clear() {
        TableMaker x = builtPairs();
        x.begin();
        x.feed(1);
        x.feed(1);
        x.clear();
        same("states after clear", 0, x.states());
        same("state after clear", 0, x.state());
        same("depth after clear", 0, x.depth());
        same("used after clear", 0, x.used());
        same("first after clear", 0, x.first(2));
        same("nullable after clear", false, x.nullable(2));
        refuses("use after clear", ELEMENT, () -> x.use(0));
        refuses("items after clear", ELEMENT, () -> x.items(0));
        refuses("symbol after clear", STATE, () -> x.symbol(0));
        refuses("build after clear", STATE, x::build);
        refuses("begin after clear", STATE, x::begin);
        same("the sizes stay", true, isNonterminal(x, 3) && !isNonterminal(x, 4));
        addRules(x, rule(3, 0));
        same("first after clear", 1, x.first(3));
        same("build of a new grammar after clear", 3, x.build());

        TableMaker y = ambiguous();
        refuses("build", CONFLICT, y::build);
        y.clear();
        same("conflict after clear", -1, y.conflict(0));
        same("conflict symbol after clear", -1, y.conflict(1));
        addRules(y, repeated(3, 0, 40));
        same("forty symbols after clear", 42, y.build());
    }

    // ---- the table

    private static void promise6Build() {
        TableMaker x = pairs();
        same("build", 10, x.build());
        refuses("build with a table", STATE, x::build);
        same("states", 10, x.states());
        x.open();
        same("build once more", 10, x.build());

        TableMaker empty = grammar(1, 1, rule(1));
        same("build of an empty right side", 2, empty.build());
        same("reduction by it", -1, empty.action(0, 2));
        TableMaker bare = grammar(2, 2, rule(2, 3, 0));
        same("build with a nonterminal without productions", 4, bare.build());

        // Read with one symbol ahead, but not with states that are made one by their places alone.
        TableMaker y = grammar(5, 3, rule(5, 0, 6, 3), rule(5, 1, 7, 3), rule(5, 0, 7, 4),
                rule(5, 1, 6, 4), rule(6, 2), rule(7, 2));
        same("build of states that differ in what is ahead", 14, y.build());
    }

    /** S: x A y ..; S: z A w; A: a .. a; the states within A come twice. */
    private static TableMaker doubled(int as, int ys) {
        TableMaker x = new TableMaker(5, 2);
        addRules(x, rule(5, 0, 6, 1));
        for (int i = 1; i < ys; i++) {
            x.symbol(1);
        }
        addRules(x, rule(5, 2, 6, 3), repeated(6, 4, as));
        return x;
    }

    private static void promise6SixtyStates() {
        same("sixty states", 60, doubled(26, 1).build());
        TableMaker x = doubled(26, 2);
        refuses("sixty-one states", TOO_MANY, x::build);
        same("states when there were too many", 0, x.states());
        same("no conflict is told", -1, x.conflict(0));
        refuses("no table", STATE, x::begin);
        refuses("no table", ELEMENT, () -> x.items(0));
        refuses("sixty-one states again", TOO_MANY, x::build);
        x.clear();
        addRules(x, rule(5, 0));
        same("build after too many", 3, x.build());

        TableMaker y = doubled(27, 1);
        addRules(y, rule(5, 0), rule(6));
        addRules(y, rule(5, 0));
        refuses("too many states and a conflict", TOO_MANY, y::build);
        same("no conflict is told", -1, y.conflict(0));
        same("nor its symbol", -1, y.conflict(1));
    }

    private static void promise6Conflicts() {
        TableMaker x = ambiguous();
        refuses("a conflict", CONFLICT, x::build);
        same("states", 0, x.states());
        refuses("no table", ELEMENT, () -> x.action(0, 0));
        refuses("no table", STATE, x::begin);
        refuses("a conflict, again", CONFLICT, x::build);

        TableMaker y = ambiguous();
        refuses("a conflict", CONFLICT, y::build);
        y.clear();
        addRules(y, rule(3, 2));
        same("build after a conflict", 3, y.build());
    }

    private static void sameConflict(String what, TableMaker x, int state, int symbol) {
        refuses(what, CONFLICT, x::build);
        same(what + ", state", state, x.conflict(0));
        same(what + ", symbol", symbol, x.conflict(1));
        for (int bad : WRONG) {
            same(what + ", what " + bad, -1, x.conflict(bad));
        }
        same(what + ", what 2", -1, x.conflict(2));
    }

    private static void promise7Conflict() {
        sameConflict("shift and reduce", ambiguous(), 5, 0);
        sameConflict("two reductions", grammar(2, 2, rule(2, 1), rule(2, 3), rule(3, 1)), 1, 4);
        sameConflict("the same production twice", grammar(1, 1, rule(1, 0), rule(1, 0)), 1, 2);
        sameConflict("accept and reduce", grammar(1, 1, rule(1, 1)), 1, 2);
        sameConflict("shift and empty", grammar(2, 2, rule(2, 3, 1), rule(3, 1), rule(3)), 0, 1);

        TableMaker x = ambiguous();
        refuses("build", CONFLICT, x::build);
        x.production(3);
        same("conflict after production", -1, x.conflict(0));
        refuses("build", CONFLICT, x::build);
        same("an empty one more", 5, x.conflict(0));
        x.symbol(1);
        same("conflict after symbol", -1, x.conflict(0));
        same("its symbol after symbol", -1, x.conflict(1));

        TableMaker y = builtPairs();
        same("conflict of a table", -1, y.conflict(0));
        same("its symbol", -1, y.conflict(1));
        same("another what", -1, y.conflict(7));

        // A conflict that is found only without the grammar's last change, which ends it.
        TableMaker z = grammar(2, 2, rule(2, 1), rule(2, 3), rule(3, 1));
        refuses("build", CONFLICT, z::build);
        z.symbol(0);
        same("build after the change", 5, z.build());
        same("conflict of the later build", -1, z.conflict(0));
    }

    private static void promise8States() {
        TableMaker x = pairs();
        same("states before build", 0, x.states());
        x.build();
        same("states", 10, x.states());
        refuses("build with a table", STATE, x::build);
        same("states after a refused build", 10, x.states());
    }

    private static void promise9Items() {
        TableMaker x = builtPairs();
        int[] due = {6, 6, 2, 1, 3, 2, 3, 1, 1, 1};
        for (int state = 0; state < due.length; state++) {
            same("items of state " + state, due[state], x.items(state));
        }
        refuses("items of a state too high", ELEMENT, () -> x.items(10));
        for (int bad : WRONG) {
            refuses("items of state " + bad, ELEMENT, () -> x.items(bad));
        }
        TableMaker y = pairs();
        refuses("items without a table", ELEMENT, () -> y.items(0));
    }

    private static void promise10Item() {
        TableMaker x = builtPairs();
        sameItem(x, 0, 0, -1, 0, 4);
        sameItem(x, 0, 1, 0, 0, 4);
        sameItem(x, 0, 2, 1, 0, 0);
        sameItem(x, 0, 3, 1, 0, 1);
        sameItem(x, 0, 4, 2, 0, 0);
        sameItem(x, 0, 5, 2, 0, 1);
        sameItem(x, 3, 0, -1, 1, 4);
        sameItem(x, 4, 0, 0, 1, 4);
        sameItem(x, 4, 2, 2, 0, 4);
        sameItem(x, 9, 0, 1, 2, 4);
        refuses("item too high", ELEMENT, () -> x.item(0, 6, 0));
        refuses("item too high", ELEMENT, () -> x.item(3, 1, 0));
        refuses("item of no state", ELEMENT, () -> x.item(10, 0, 0));
        refuses("part 3 of an item", ELEMENT, () -> x.item(0, 0, 3));
        for (int bad : WRONG) {
            refuses("item of state " + bad, ELEMENT, () -> x.item(bad, 0, 0));
            refuses("item " + bad, ELEMENT, () -> x.item(0, bad, 0));
            refuses("part " + bad + " of an item", ELEMENT, () -> x.item(0, 0, bad));
        }
    }

    /** S: x S y; S: x y: a state with two places of each production. */
    private static void promise10ItemsOfAStateInOrder() {
        TableMaker x = grammar(2, 2, rule(2, 0, 2, 1), rule(2, 0, 1));
        same("states", 10, x.build());
        int state = x.action(0, 0) - 1;
        same("items", 4, x.items(state));
        sameItem(x, state, 0, 0, 0, 1);
        sameItem(x, state, 1, 0, 1, 4);
        sameItem(x, state, 2, 1, 0, 1);
        sameItem(x, state, 3, 1, 1, 4);
    }

    private static void promise11Action() {
        TableMaker x = builtPairs();
        int[][] due = {{2, 3, 0}, {2, 3, 0}, {-3, -3, 0}, {0, 0, 1000}, {7, 8, 0},
            {-2, -2, 0}, {7, 8, 0}, {0, 0, -3}, {0, 0, -1}, {0, 0, -2}};
        for (int state = 0; state < due.length; state++) {
            same("action with c", due[state][0], x.action(state, 0));
            same("action with d", due[state][1], x.action(state, 1));
            same("action with END", due[state][2], x.action(state, 4));
        }
        refuses("action with a nonterminal", ELEMENT, () -> x.action(0, 2));
        refuses("action with a nonterminal", ELEMENT, () -> x.action(0, 3));
        refuses("action beyond END", ELEMENT, () -> x.action(0, 5));
        refuses("action of no state", ELEMENT, () -> x.action(10, 0));
        for (int bad : WRONG) {
            refuses("action of state " + bad, ELEMENT, () -> x.action(bad, 0));
            refuses("action with " + bad, ELEMENT, () -> x.action(0, bad));
        }
    }

    private static void promise12Follow() {
        TableMaker x = builtPairs();
        int[][] due = {{3, 4}, {-1, 5}, {-1, -1}, {-1, -1}, {-1, 8},
            {-1, -1}, {-1, 9}, {-1, -1}, {-1, -1}, {-1, -1}};
        for (int state = 0; state < due.length; state++) {
            same("follow of " + state + " with S", due[state][0], x.follow(state, 2));
            same("follow of " + state + " with C", due[state][1], x.follow(state, 3));
        }
        refuses("follow with a terminal", ELEMENT, () -> x.follow(0, 1));
        refuses("follow with END", ELEMENT, () -> x.follow(0, 4));
        refuses("follow of no state", ELEMENT, () -> x.follow(10, 2));
        for (int bad : WRONG) {
            refuses("follow of state " + bad, ELEMENT, () -> x.follow(bad, 2));
            refuses("follow with " + bad, ELEMENT, () -> x.follow(0, bad));
        }
    }

    // ---- nullable and first sets

    private static void promise13Nullable() {
        TableMaker x = new TableMaker(2, 4);
        same("without productions", false, x.nullable(2));
        // 2: 3 4; 3: 4 4; 4: nothing; 5: 5.
        addRules(x, rule(2, 3, 4), rule(3, 4, 4), rule(4), rule(5, 5));
        same("through others", true, x.nullable(2));
        same("twice", true, x.nullable(3));
        same("by itself", true, x.nullable(4));
        same("by itself alone, without end", false, x.nullable(5));
        x.production(5);
        same("by a second production", true, x.nullable(5));
        x.symbol(0);
        same("not with one symbol more", false, x.nullable(5));
        for (int bad : WRONG) {
            refuses("nullable " + bad, ARGUMENT, () -> x.nullable(bad));
        }
        refuses("nullable of a terminal", ARGUMENT, () -> x.nullable(1));
        refuses("nullable of END", ARGUMENT, () -> x.nullable(6));
        TableMaker y = grammar(1, 2, rule(1, 0), rule(2));
        y.build();
        same("with a table", true, y.nullable(2));
        same("with a table", false, y.nullable(1));
    }

    private static void promise14First() {
        TableMaker x = new TableMaker(4, 4);
        same("without productions", 0, x.first(4));
        // 4: 5 6 2; 5: 0; 5: nothing; 6: 6 1; 6: 3 7; 7 has none.
        addRules(x, rule(4, 5, 6, 2), rule(5, 0), rule(5), rule(6, 6, 1), rule(6, 3, 7));
        same("past a nullable one", 9, x.first(4));
        same("of its own", 1, x.first(5));
        same("before a symbol that makes no terminals", 8, x.first(6));
        same("of none", 0, x.first(7));
        x.production(6);
        same("one more nullable", 15, x.first(4));
        same("past itself", 10, x.first(6));
        x.symbol(7);
        same("as before", 9, x.first(4));
        same("as before", 8, x.first(6));
        for (int bad : WRONG) {
            refuses("first " + bad, ARGUMENT, () -> x.first(bad));
        }
        refuses("first of a terminal", ARGUMENT, () -> x.first(3));
        refuses("first of END", ARGUMENT, () -> x.first(8));
        TableMaker y = grammar(7, 6, rule(7, 8), rule(8, 9), rule(9, 10), rule(10, 11),
                rule(11, 12), rule(12, 6));
        same("through all", 64, y.first(7));
        y.build();
        same("with a table", 64, y.first(7));
    }

    /** S: A B C; A: a; B: b, and C has no productions: nothing can stand behind B. */
    private static void closuresWithoutSymbolAhead() {
        TableMaker x = grammar(2, 4, rule(2, 3, 4, 5), rule(3, 0), rule(4, 1));
        same("build", 6, x.build());
        same("items of state 0", 3, x.items(0));
        sameItem(x, 0, 2, 1, 0, 1);
        int behindA = x.follow(0, 3);
        same("B leads to nothing", 1, x.items(behindA));
        same("so there is no shift", 0, x.action(behindA, 1));
        same("but there are gotos", true, x.follow(behindA, 4) > 0);
    }

    // ---- the driver

    private static void promise15Begin() {
        TableMaker x = pairs();
        refuses("begin without a table", STATE, x::begin);
        x.build();
        same("state before begin", 0, x.state());
        x.begin();
        same("state", 1, x.state());
        same("depth", 1, x.depth());
        x.feed(1);
        x.feed(1);
        x.begin();
        same("state of a second row", 1, x.state());
        same("depth of a second row", 1, x.depth());
        same("used of a second row", 0, x.used());
        refuses("use of a second row", ELEMENT, () -> x.use(0));
        x.finish();
        same("refused", 3, x.state());
        x.begin();
        same("state after a refused row", 1, x.state());
        x.feed(1);
        x.feed(1);
        x.finish();
        same("accepted", 2, x.state());
        x.begin();
        same("state after an accepted row", 1, x.state());
        same("used after an accepted row", 0, x.used());
    }

    private static void promise16Feed() {
        TableMaker x = pairs();
        refuses("feed without a table", STATE, () -> x.feed(0));
        refuses("feed of no terminal without a table", ARGUMENT, () -> x.feed(2));
        x.build();
        refuses("feed without a row", STATE, () -> x.feed(0));
        refuses("feed of no terminal without a row", ARGUMENT, () -> x.feed(4));
        x.begin();
        for (int bad : WRONG) {
            refuses("feed " + bad, ARGUMENT, () -> x.feed(bad));
        }
        refuses("feed of a nonterminal", ARGUMENT, () -> x.feed(2));
        refuses("feed of END", ARGUMENT, () -> x.feed(4));
        same("a wrong token changes nothing", 1, x.state());
        same("c", true, x.feed(0));
        same("d", true, x.feed(1));
        same("d", true, x.feed(1));
        same("one too many", false, x.feed(1));
        same("refused", 3, x.state());
        refuses("feed when refused", STATE, () -> x.feed(1));
        refuses("feed of no terminal when refused", ARGUMENT, () -> x.feed(-1));
        x.begin();
        x.feed(1);
        x.feed(1);
        x.finish();
        refuses("feed when accepted", STATE, () -> x.feed(1));
        refuses("feed of no terminal when accepted", ARGUMENT, () -> x.feed(9));
        same("still accepted", 2, x.state());
    }

    private static void promise16SixtyStatesOnTheStack() {
        TableMaker x = growing();
        for (int i = 1; i <= 59; i++) {
            same("token " + i, true, x.feed(0));
            same("depth", i + 1, x.depth());
        }
        refuses("feed with sixty states", STATE, () -> x.feed(0));
        refuses("feed of no terminal with sixty states", ARGUMENT, () -> x.feed(1));
        same("it changes nothing", 1, x.state());
        same("it changes nothing", 60, x.depth());
        same("finish with sixty states", true, x.finish());
        same("used", 60, x.used());
        same("the empty one first", 1, x.use(0));
        same("then the others", 0, x.use(59));
        same("depth when accepted", 2, x.depth());
    }

    private static void promise17Finish() {
        TableMaker x = pairs();
        refuses("finish without a table", STATE, x::finish);
        x.build();
        refuses("finish without a row", STATE, x::finish);
        x.begin();
        same("finish too soon", false, x.finish());
        same("refused", 3, x.state());
        refuses("finish when refused", STATE, x::finish);
        x.begin();
        x.feed(1);
        x.feed(0);
        x.feed(1);
        same("finish", true, x.finish());
        same("accepted", 2, x.state());
        refuses("finish when accepted", STATE, x::finish);
        same("used", 4, x.used());
        same("the last one used", 0, x.use(3));
        TableMaker y = grammar(1, 1, rule(1));
        y.build();
        y.begin();
        same("an empty row", true, y.finish());
        same("used", 1, y.used());
    }

    private static void promise18State() {
        TableMaker x = builtPairs();
        same("no row", 0, x.state());
        x.begin();
        same("begun", 1, x.state());
        x.feed(1);
        same("still", 1, x.state());
        x.feed(1);
        x.finish();
        same("accepted", 2, x.state());
        x.begin();
        x.finish();
        same("refused at the end", 3, x.state());
        x.begin();
        x.feed(1);
        x.feed(1);
        x.feed(0);
        same("refused at a token", 3, x.state());
        x.open();
        same("no row any more", 0, x.state());
    }

    private static void promise19Depth() {
        TableMaker x = builtPairs();
        same("without a row", 0, x.depth());
        x.begin();
        same("begun", 1, x.depth());
        x.feed(0);
        same("c", 2, x.depth());
        x.feed(0);
        same("c c", 3, x.depth());
        x.feed(1);
        same("c c d", 4, x.depth());
        x.feed(1);
        same("C d", 3, x.depth());
        same("refused", false, x.feed(1));
        same("depth when refused: as it was", 3, x.depth());
        x.begin();
        x.feed(1);
        x.feed(1);
        x.finish();
        same("depth when accepted", 2, x.depth());
        x.clear();
        same("cleared", 0, x.depth());
    }

    private static void promise20Used() {
        TableMaker x = flat();
        same("begun", 0, x.used());
        for (int i = 1; i <= 210; i++) {
            x.feed(0);
            same("used after tokens", i, x.used());
        }
        same("depth", 3, x.depth());
        x.finish();
        same("used in the row", 211, x.used());
        x.begin();
        same("used in another row", 0, x.used());

        // A refused row keeps what it used before: B: nothing, then C, of which nothing comes.
        TableMaker y = grammar(1, 4, rule(1, 2, 3, 4), rule(2), rule(3, 0));
        y.build();
        y.begin();
        same("no action after a reduction", false, y.feed(0));
        same("used by a refused row", 1, y.used());
        same("the one used", 1, y.use(0));
        same("depth of it", 2, y.depth());
        same("refused", 3, y.state());
    }

    private static void promise21Use() {
        TableMaker x = flat();
        refuses("none used", ELEMENT, () -> x.use(0));
        for (int i = 0; i < 199; i++) {
            x.feed(0);
        }
        same("the first", 0, x.use(0));
        same("the second", 1, x.use(1));
        same("the last of 199", 1, x.use(198));
        refuses("beyond it", ELEMENT, () -> x.use(199));
        x.feed(0);
        same("the last that is kept", 1, x.use(199));
        refuses("beyond it", ELEMENT, () -> x.use(200));
        x.feed(0);
        same("used", 201, x.used());
        refuses("one that is not kept", ELEMENT, () -> x.use(200));
        same("the first is still kept", 0, x.use(0));
        for (int bad : WRONG) {
            refuses("use " + bad, ELEMENT, () -> x.use(bad));
        }
        x.begin();
        refuses("of the row before", ELEMENT, () -> x.use(0));
    }

    /** Empty rows within empty rows: one call, thousands of reductions. */
    private static void nestedEmptyRows() {
        TableMaker x = grammar(1, 6, repeated(1, 2, 8), repeated(2, 3, 8), repeated(3, 4, 8),
                repeated(4, 5, 8), repeated(5, 6, 8), rule(6));
        same("states", 42, x.build());
        x.begin();
        same("accepted", true, x.finish());
        same("used", 1 + 8 + 64 + 512 + 4096 + 32768, x.used());
        same("the first", 5, x.use(0));
        same("the first of the next kind", 4, x.use(8));
        refuses("use beyond what is kept", ELEMENT, () -> x.use(200));

        // S: x S A A A A A A A A; S: nothing: such rows behind each x.
        TableMaker y = new TableMaker(1, 6);
        addRules(y, rule(1, 0, 1, 2, 2, 2, 2, 2, 2, 2, 2), rule(1), repeated(2, 3, 8),
                repeated(3, 4, 8), repeated(4, 5, 7), repeated(5, 6, 7), rule(6));
        y.build();
        y.begin();
        for (int i = 0; i < 59; i++) {
            y.feed(0);
        }
        same("accepted", true, y.finish());
        int behindEach = 8 * (1 + 8 * (1 + 8 * (1 + 7 * (1 + 7))));
        same("used", 59 * (1 + behindEach) + 1, y.used());
    }

    /** S: x S; S: E .. E y, each E empty: a token can leave far more than sixty states. */
    private static void stackGrowsBeyondSixty() {
        int[] long1 = repeated(2, 3, 36);
        long1[36] = 1;
        TableMaker x = grammar(2, 2, rule(2, 0, 2), long1, rule(3));
        x.build();
        x.begin();
        for (int i = 0; i < 58; i++) {
            x.feed(0);
        }
        same("depth", 59, x.depth());
        same("y", true, x.feed(1));
        same("depth", 59 + 36, x.depth());
        same("used", 35, x.used());
        refuses("feed", STATE, () -> x.feed(1));
        same("finish", true, x.finish());
        same("used", 35 + 1 + 58, x.used());
    }

    /** The document tells no end of these; a call has to end all the same. */
    private static void reductionsWithoutEnd() {
        // S: A B C; A: A; A: nothing; B: a; C has none. With a: A by A, and so on.
        TableMaker x = grammar(1, 4, rule(1, 2, 3, 4), rule(2, 2), rule(2), rule(3, 0));
        x.build();
        x.begin();
        same("the same again and again", false, x.feed(0));
        same("refused", 3, x.state());
        x.begin();
        same("a next row", 1, x.state());

        // A: B A d; A: E F; B: nothing; E: y; F has none. With y: a B more, and so on.
        TableMaker y = grammar(2, 4, rule(2, 3, 2, 0), rule(2, 4, 5), rule(3), rule(4, 1));
        y.build();
        y.begin();
        same("more and more", false, y.feed(1));
        same("refused", 3, y.state());
        y.begin();
        same("a next row", 1, y.depth());
    }

    private static void exampleOfReadme() {
        TableMaker x = new TableMaker(2, 2);
        x.production(2);
        x.symbol(3);
        x.symbol(3);
        x.production(3);
        x.symbol(0);
        x.symbol(3);
        x.production(3);
        x.symbol(1);
        same("README, build", 10, x.build());
        x.begin();
        same("README, c", true, x.feed(0));
        same("README, d", true, x.feed(1));
        same("README, d", true, x.feed(1));
        same("README, finish", true, x.finish());
        int[] due = {2, 1, 2, 0};
        same("README, used", due.length, x.used());
        for (int k = 0; k < due.length; k++) {
            same("README, use " + k, due[k], x.use(k));
        }
    }
}
