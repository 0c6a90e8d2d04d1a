import java.util.Arrays;

/**
 * The boundary cases that the document names, a test for each such sentence: what is just inside a
 * bound, what is just outside, and that a refused call changes nothing. No object gets more than
 * the 512 calls that the document speaks of.
 */
public final class BoundaryTests {
    private static final String ARGUMENT = "IllegalArgumentException";
    private static final String STATE = "IllegalStateException";
    private static final String ELEMENT = "NoSuchElementException";
    private static final String TOO_MANY = "ArithmeticException";
    private static final String CONFLICT = "UnsupportedOperationException";
    private static final String DONE = "done";

    private static final int MOST_CALLS = 512;
    private static final int LOWEST = Integer.MIN_VALUE;
    private static final int HIGHEST = Integer.MAX_VALUE;
    private static final int END = 4;

    private static String test = "";
    private static int wrong = 0;
    private static int asked = 0;

    public static void main(String[] args) {
        terms();
        grammarPromises();
        tablePromises();
        setPromises();
        driverPromises();
        refusedCallsChangeNothing();
        run("What it is: at most 512 calls", BoundaryTests::lastOfTheCalls);
        System.out.println(asked + " answers, " + wrong + " wrong");
        if (wrong != 0) {
            System.exit(1);
        }
    }

    private static void terms() {
        run("Terms: symbols, terminals, nonterminals, END", BoundaryTests::symbolsOfEachSize);
        run("Terms: the right side, at first none", BoundaryTests::rightSideAtFirstNone);
        run("Terms: the start is the left one of production 0", BoundaryTests::startOfProduction0);
        run("Terms: the first set of the row behind, followed by a", BoundaryTests::rowBehind);
        run("Terms: an empty first set ahead", BoundaryTests::nothingAhead);
        run("Terms: all to which one comes so", BoundaryTests::closureByManySteps);
        run("Terms: state 0 alone has the outer start undone", BoundaryTests::outerStart);
        run("Terms: by numbers, without END", BoundaryTests::gotosByNumbers);
        run("Terms: if it is none that is there", BoundaryTests::gotoThatIsThere);
        run("Terms: reduce by an empty right side takes none off", BoundaryTests::emptyReduction);
        run("Terms: a reduction takes off all but state 0", BoundaryTests::longestReduction);
        run("Terms: refused, and nothing more is done", BoundaryTests::refusedRow);
        run("Terms: of two exceptions the first", BoundaryTests::twoExceptions);
    }

    private static void grammarPromises() {
        run("1: t 1 .. 7, otherwise 3", BoundaryTests::terminalsOfANewObject);
        run("1: n 1 .. 6, otherwise 2", BoundaryTests::nonterminalsOfANewObject);
        run("1: no productions, no table", BoundaryTests::newObject);
        run("1: one object alone", BoundaryTests::objectsAreApart);
        run("2: no nonterminal", BoundaryTests::productionOfNoNonterminal);
        run("2: there are 14", BoundaryTests::fourteenProductions);
        run("2: there is a table", BoundaryTests::productionWithTable);
        run("3: it is none", BoundaryTests::symbolThatIsNone);
        run("3: no production", BoundaryTests::symbolWithoutProduction);
        run("3: there are 40, of one production", BoundaryTests::fortySymbolsOfOne);
        run("3: there are 40, of fourteen together", BoundaryTests::fortySymbolsOfFourteen);
        run("3: there is a table", BoundaryTests::symbolWithTable);
        run("3: the last production's, behind", BoundaryTests::symbolGoesBehind);
        run("4: the table goes, if there is one", BoundaryTests::openWithoutTable);
        run("4: and the row", BoundaryTests::openEndsEachRow);
        run("4: the grammar stays", BoundaryTests::openKeepsGrammar);
        run("4: and what conflict tells", BoundaryTests::openKeepsConflict);
        run("5: all goes", BoundaryTests::clearTakesAll);
        run("5: all goes, a full grammar", BoundaryTests::clearOfAFullGrammar);
        run("5: all goes, the start too", BoundaryTests::clearTakesStart);
    }

    private static void tablePromises() {
        run("6: no production", BoundaryTests::buildWithoutProduction);
        run("6: there is a table", BoundaryTests::buildWithTable);
        run("6: the smallest table", BoundaryTests::smallestTable);
        run("6: more than 60 states", BoundaryTests::sixtyStates);
        run("6: 14 productions of 40 symbols", BoundaryTests::fullGrammar);
        run("6: no conflict is told then", BoundaryTests::tooManyAndConflict);
        run("6: there is a conflict", BoundaryTests::conflictLeavesNoTable);
        run("6: each kind of conflict", BoundaryTests::kindsOfConflict);
        run("7: the first by states, then by symbols", BoundaryTests::firstConflict);
        run("7: the last symbol, the last state", BoundaryTests::lastConflict);
        run("7: not refused by IllegalStateException", BoundaryTests::conflictAfterRefusedBuild);
        run("7: none since the grammar was changed", BoundaryTests::conflictAfterChange);
        run("7: NONE for another what", BoundaryTests::conflictOfAnotherWhat);
        run("8: 0 without one", BoundaryTests::statesWithoutTable);
        run("9: no such state", BoundaryTests::itemsOfNoState);
        run("9: one item, and the most", BoundaryTests::fewestAndMostItems);
        run("10: there is none", BoundaryTests::itemThatIsNone);
        run("10: another what", BoundaryTests::itemOfAnotherWhat);
        run("10: by p, then d, then a", BoundaryTests::itemsInOrder);
        run("11: no such state or symbol", BoundaryTests::actionOfNone);
        run("11: the lowest and highest actions", BoundaryTests::outermostActions);
        run("12: no such state or symbol", BoundaryTests::followOfNone);
        run("12: NONE when there is none", BoundaryTests::followNone);
    }

    private static void setPromises() {
        run("13: it is none", BoundaryTests::nullableOfNone);
        run("13: an empty row", BoundaryTests::nullableEdges);
        run("13: as the grammar is", BoundaryTests::nullableFollowsGrammar);
        run("14: it is none", BoundaryTests::firstOfNone);
        run("14: no bits, all bits", BoundaryTests::firstEdges);
        run("14: rows of terminals and nonterminals", BoundaryTests::firstBeforeUnmade);
    }

    private static void driverPromises() {
        run("15: without a table", BoundaryTests::beginWithoutTable);
        run("15: a row again, nothing is used", BoundaryTests::beginAgain);
        run("16: it is no terminal", BoundaryTests::feedOfNoTerminal);
        run("16: no row is begun", BoundaryTests::feedWithoutRow);
        run("16: it was refused or accepted", BoundaryTests::feedOfAnEndedRow);
        run("16: the stack has 60 states", BoundaryTests::feedUponSixty);
        run("16: or more", BoundaryTests::feedUponMore);
        run("17: no row is begun", BoundaryTests::finishWithoutRow);
        run("17: it was refused or accepted", BoundaryTests::finishOfAnEndedRow);
        run("17: an empty row", BoundaryTests::finishOfAnEmptyRow);
        run("18: 0, 1, 2, 3", BoundaryTests::stateOfEachRow);
        run("19: 0 without a row", BoundaryTests::depthWithoutRow);
        run("20: how many", BoundaryTests::usedBeyondKept);
        run("21: there is none", BoundaryTests::useOfNone);
        run("21: the first 200 are kept", BoundaryTests::useOfTheFirst200);
    }

    private static void run(String name, Runnable method) {
        test = name;
        method.run();
    }

    // ---- helpers

    private interface Making {
        Maker get();
    }

    /** An object whose calls are counted; a call that is refused answers its exception's name. */
    private static final class Maker {
        private final TableMaker x;
        private int calls = 0;

        Maker(int t, int n) {
            x = new TableMaker(t, n);
        }

        String ask(String call, int... a) {
            calls++;
            if (calls > MOST_CALLS) {
                wrong++;
                System.out.println(test + ": more than " + MOST_CALLS + " calls");
            }
            try {
                return answer(call, a);
            } catch (RuntimeException e) {
                return e.getClass().getSimpleName();
            }
        }

        private String answer(String call, int[] a) {
            switch (call) {
                case "production": return "" + x.production(a[0]);
                case "symbol": x.symbol(a[0]); return DONE;
                case "open": x.open(); return DONE;
                case "clear": x.clear(); return DONE;
                case "build": return "" + x.build();
                case "conflict": return "" + x.conflict(a[0]);
                case "states": return "" + x.states();
                case "items": return "" + x.items(a[0]);
                case "item": return "" + x.item(a[0], a[1], a[2]);
                case "action": return "" + x.action(a[0], a[1]);
                case "follow": return "" + x.follow(a[0], a[1]);
                case "nullable": return "" + x.nullable(a[0]);
                case "first": return "" + x.first(a[0]);
                case "begin": x.begin(); return DONE;
                case "feed": return "" + x.feed(a[0]);
                case "finish": return "" + x.finish();
                case "state": return "" + x.state();
                case "depth": return "" + x.depth();
                case "used": return "" + x.used();
                case "use": return "" + x.use(a[0]);
                default: return "no such call";
            }
        }

        int number(String call, int... a) {
            return Integer.parseInt(ask(call, a));
        }

        /** A production with this left symbol and right side. */
        Maker rule(int left, int... right) {
            ask("production", left);
            for (int s : right) {
                ask("symbol", s);
            }
            return this;
        }

        Maker with(String... calls) {
            for (String call : calls) {
                ask(call);
            }
            return this;
        }

        Maker fed(int... tokens) {
            for (int token : tokens) {
                ask("feed", token);
            }
            return this;
        }
    }

    private static void due(Maker x, Object want, String call, int... a) {
        String got = x.ask(call, a);
        asked++;
        if (!got.equals("" + want)) {
            wrong++;
            System.out.println(test + ": " + call + Arrays.toString(a) + " answered " + got
                    + ", due is " + want);
        }
    }

    private static void same(String what, Object want, Object got) {
        asked++;
        if (!want.equals(got)) {
            wrong++;
            System.out.println(test + ": " + what + ": " + got + ", due is " + want);
        }
    }

    private static void dueItem(Maker x, int state, int k, int p, int d, int a) {
        due(x, p, "item", state, k, 0);
        due(x, d, "item", state, k, 1);
        due(x, a, "item", state, k, 2);
    }

    private static int[] times(int count, int s) {
        int[] row = new int[count];
        Arrays.fill(row, s);
        return row;
    }

    // The grammars below are of terminals 0 and 1, nonterminals 2 and 3, and END 4.

    /** S: C C; C: 0 C; C: 1, without a table. */
    private static Maker pairs() {
        return new Maker(2, 2).rule(2, 3, 3).rule(3, 0, 3).rule(3, 1);
    }

    private static Maker tableOfPairs() {
        return pairs().with("build");
    }

    private static Maker rowOfPairs() {
        return tableOfPairs().with("begin");
    }

    /** S: S 0 S; S: 1: the conflict is told. */
    private static Maker conflicting() {
        return new Maker(2, 2).rule(2, 2, 0, 2).rule(2, 1).with("build");
    }

    /** S: 0 A 0; S: 1 A 1; A: 28 times 0: the states within A come twice, 64 in all. */
    private static Maker tooLarge() {
        Maker x = new Maker(2, 2).rule(2, 0, 3, 0).rule(2, 1, 3, 1).rule(3, times(28, 0));
        return x.with("build");
    }

    /** S: 0 S; S: nothing: the stack grows with each 0. */
    private static Maker grown(int tokens) {
        return new Maker(2, 2).rule(2, 0, 2).rule(2).with("build", "begin").fed(times(tokens, 0));
    }

    /** S: nothing; S: S 0: a production is used with each 0. */
    private static Maker flat(int tokens) {
        return new Maker(2, 2).rule(2).rule(2, 2, 0).with("build", "begin").fed(times(tokens, 0));
    }

    private static Making[] withoutRow() {
        return new Making[] {
            () -> new Maker(2, 2),
            BoundaryTests::pairs,
            BoundaryTests::conflicting,
            BoundaryTests::tooLarge,
            BoundaryTests::tableOfPairs,
            () -> rowOfPairs().with("open"),
            () -> rowOfPairs().with("open", "build"),
            () -> rowOfPairs().with("clear"),
        };
    }

    /** Begun, refused at a token, refused at the end, accepted; each has used a production. */
    private static Making[] withRow() {
        return new Making[] {
            () -> rowOfPairs().fed(1, 1),
            () -> rowOfPairs().fed(1, 1, 1),
            () -> rowOfPairs().fed(1, 0).with("finish"),
            () -> rowOfPairs().fed(1, 1).with("finish"),
        };
    }

    private static Maker fullOfProductions() {
        Maker x = new Maker(2, 2);
        for (int p = 0; p < 14; p++) {
            x.rule(2 + p % 2);
        }
        return x;
    }

    private static Maker fullOfSymbols() {
        return new Maker(2, 2).rule(2, times(40, 1));
    }

    /** S: x A y ..; S: z A w; A: a .. a, with x 0, y 1, z 2, w 3, a 4, S 5, A 6. */
    private static Maker doubled(int as, int ys) {
        int[] first = times(ys + 2, 1);
        first[0] = 0;
        first[1] = 6;
        return new Maker(5, 2).rule(5, first).rule(5, 2, 6, 3).rule(6, times(as, 4));
    }

    // ---- Terms

    /** Each call that takes a symbol, on both sides of each bound of its kind of symbols. */
    private static void symbolsOfEachSize() {
        for (int t = 1; t <= 7; t++) {
            for (int n = 1; n <= 6; n++) {
                symbolsOfTheGrammar(new Maker(t, n), t, t + n);
                symbolsOfTheTable(new Maker(t, n), t, t + n);
                symbolsOfTheRow(new Maker(t, n), t, t + n);
            }
        }
    }

    private static void symbolsOfTheGrammar(Maker x, int t, int end) {
        due(x, ARGUMENT, "production", t - 1);
        due(x, 0, "production", t);
        due(x, 1, "production", end - 1);
        due(x, ARGUMENT, "production", end);
        due(x, ARGUMENT, "symbol", -1);
        due(x, DONE, "symbol", 0);
        due(x, DONE, "symbol", t - 1);
        due(x, DONE, "symbol", t);
        due(x, DONE, "symbol", end - 1);
        due(x, ARGUMENT, "symbol", end);
        due(x, ARGUMENT, "symbol", end + 1);
        due(x, ARGUMENT, "nullable", t - 1);
        due(x, "true", "nullable", t);
        due(x, t == end - 1, "nullable", end - 1);
        due(x, ARGUMENT, "nullable", end);
        due(x, ARGUMENT, "first", t - 1);
        due(x, t == end - 1 ? 1 : 0, "first", t);
        due(x, 1, "first", end - 1);
        due(x, ARGUMENT, "first", end);
    }

    /** By the production of the last nonterminal from the first symbol alone. */
    private static void symbolsOfTheTable(Maker x, int t, int end) {
        x.rule(end - 1, 0).with("build");
        due(x, ELEMENT, "action", 0, -1);
        due(x, 2, "action", 0, 0);
        due(x, t == 1 ? 2 : 0, "action", 0, t - 1);
        due(x, ELEMENT, "action", 0, t);
        due(x, ELEMENT, "action", 0, end - 1);
        due(x, 0, "action", 0, end);
        due(x, -1, "action", 1, end);
        due(x, ELEMENT, "action", 0, end + 1);
        due(x, ELEMENT, "follow", 0, t - 1);
        due(x, t == end - 1 ? 2 : -1, "follow", 0, t);
        due(x, 2, "follow", 0, end - 1);
        due(x, ELEMENT, "follow", 0, end);
        dueItem(x, 0, 0, TableMaker.NONE, 0, end);
    }

    private static void symbolsOfTheRow(Maker x, int t, int end) {
        x.rule(t, 0, t - 1).with("build", "begin");
        due(x, ARGUMENT, "feed", -1);
        due(x, ARGUMENT, "feed", t);
        due(x, ARGUMENT, "feed", end - 1);
        due(x, ARGUMENT, "feed", end);
        due(x, "true", "feed", 0);
        due(x, "true", "feed", t - 1);
        due(x, "true", "finish");
    }

    private static void rightSideAtFirstNone() {
        Maker x = new Maker(2, 2).rule(2);
        due(x, "true", "nullable", 2);
        due(x, 2, "build");
        dueItem(x, 0, 1, 0, 0, END);
        due(x, -1, "action", 0, END);
        x.with("begin");
        due(x, "true", "finish");
    }

    private static void startOfProduction0() {
        Maker x = new Maker(2, 2).rule(3, 1).rule(2, 0).with("build");
        due(x, 3, "states");
        due(x, 2, "items", 0);
        due(x, 0, "action", 0, 0);
        due(x, 2, "action", 0, 1);
        due(x, -1, "follow", 0, 2);
        due(x, 2, "follow", 0, 3);
        due(x, 1000, "action", 2, END);
    }

    private static void rowBehind() {
        // S: A A; A: 0; A: nothing: behind the first A stands 0 or, if the second is empty, END.
        Maker x = new Maker(2, 2).rule(2, 3, 3).rule(3, 0).rule(3);
        due(x, CONFLICT, "build");
        // S: A B; A: 1; B: nothing, with B 4, END 5: behind A stands END alone.
        Maker y = new Maker(2, 3).rule(2, 3, 4).rule(3, 1).rule(4).with("build");
        due(y, 3, "items", 0);
        dueItem(y, 0, 2, 1, 0, 5);
        // S: A B 0; A: 1; B: nothing: 0 alone, no END.
        Maker z = new Maker(2, 3).rule(2, 3, 4, 0).rule(3, 1).rule(4).with("build");
        due(z, 3, "items", 0);
        dueItem(z, 0, 2, 1, 0, 0);
    }

    private static void nothingAhead() {
        // S: A B C; A: 0; B: 1, and C, which makes nothing, has no productions.
        Maker x = new Maker(2, 4).rule(2, 3, 4, 5).rule(3, 0).rule(4, 1).with("build");
        due(x, 6, "states");
        int behindA = x.number("follow", 0, 3);
        due(x, 1, "items", behindA);
        due(x, 0, "action", behindA, 1);
        due(x, 4, "follow", behindA, 4);
        // The start itself may have no row that ends: S: S 0.
        Maker y = new Maker(2, 2).rule(2, 2, 0);
        due(y, 3, "build");
        due(y, 3, "items", 0);
        y.with("begin");
        due(y, "false", "feed", 0);
    }

    private static void closureByManySteps() {
        // F: E; A: 0; B: A; C: B; D: C; E: D: each leads to the production before it.
        Maker x = new Maker(1, 6).rule(6, 5).rule(1, 0).rule(2, 1).rule(3, 2).rule(4, 3).rule(5, 4);
        due(x, 8, "build");
        due(x, 7, "items", 0);
        dueItem(x, 0, 2, 1, 0, 7);
        // S: A 0; S: nothing; A: S 1: what A brings ahead of S comes when S is there already.
        Maker y = new Maker(2, 2).rule(2, 3, 0).rule(2).rule(3, 2, 1);
        due(y, 5, "build");
        due(y, 6, "items", 0);
        dueItem(y, 0, 1, 0, 0, 1);
        dueItem(y, 0, 2, 0, 0, END);
        due(y, -2, "action", 0, 1);
        due(y, -2, "action", 0, END);
    }

    private static void outerStart() {
        Maker x = new Maker(2, 2).rule(2, 0, 2).rule(2, 1).with("build");
        dueItem(x, 0, 0, TableMaker.NONE, 0, END);
        for (int state = 1; state < x.number("states"); state++) {
            boolean outer = x.number("item", state, 0, 0) == TableMaker.NONE;
            same("outer start in " + state, outer, x.number("follow", 0, 2) == state);
        }
        dueItem(x, x.number("follow", 0, 2), 0, TableMaker.NONE, 1, END);
    }

    private static void gotosByNumbers() {
        // S: A 1; S: 0; A: 1 1: state 1 is behind 0, 2 behind 1, 3 behind S, 4 behind A.
        Maker x = new Maker(2, 2).rule(2, 3, 1).rule(2, 0).rule(3, 1, 1).with("build");
        due(x, 2, "action", 0, 0);
        due(x, 3, "action", 0, 1);
        due(x, 3, "follow", 0, 2);
        due(x, 4, "follow", 0, 3);
        due(x, 6, "action", 2, 1);
        due(x, 7, "action", 4, 1);
        due(x, 7, "states");
    }

    private static void gotoThatIsThere() {
        // C: 0 C leads from behind 0 to the very same state.
        Maker x = tableOfPairs();
        due(x, 2, "action", 0, 0);
        due(x, 2, "action", 1, 0);
        due(x, 7, "action", 6, 0);
        due(x, 10, "states");
    }

    private static void emptyReduction() {
        Maker x = flat(1);
        due(x, 3, "depth");
        due(x, 1, "used");
        due(x, 0, "use", 0);
        Maker y = grown(0);
        due(y, "true", "finish");
        due(y, 2, "depth");
        due(y, 1, "use", 0);
    }

    private static void longestReduction() {
        Maker x = fullOfSymbols().with("build", "begin").fed(times(40, 1));
        due(x, 41, "depth");
        due(x, 0, "used");
        due(x, "true", "finish");
        due(x, 2, "depth");
        due(x, 1, "used");
    }

    private static void refusedRow() {
        // S: A B C; A: nothing; B: 0, and C has no productions: no action after a reduction.
        Maker x = new Maker(1, 4).rule(1, 2, 3, 4).rule(2).rule(3, 0).with("build", "begin");
        due(x, "false", "feed", 0);
        due(x, 3, "state");
        due(x, 2, "depth");
        due(x, 1, "used");
        due(x, 1, "use", 0);
        Maker y = rowOfPairs().fed(0, 0, 1);
        due(y, "false", "finish");
        due(y, 3, "state");
        due(y, 4, "depth");
        due(y, 0, "used");
        Maker z = rowOfPairs().fed(1, 1);
        due(z, "false", "feed", 1);
        due(z, 3, "depth");
        due(z, 1, "used");
    }

    private static void twoExceptions() {
        for (Making make : new Making[] {
            BoundaryTests::tableOfPairs,
            BoundaryTests::rowOfPairs,
            BoundaryTests::fullOfProductions,
        }) {
            due(make.get(), ARGUMENT, "production", 1);
            due(make.get(), ARGUMENT, "production", END);
            due(make.get(), STATE, "production", 2);
        }
        for (Making make : new Making[] {
            BoundaryTests::tableOfPairs,
            BoundaryTests::fullOfSymbols,
            () -> new Maker(2, 2),
        }) {
            due(make.get(), ARGUMENT, "symbol", -1);
            due(make.get(), ARGUMENT, "symbol", END);
            due(make.get(), STATE, "symbol", 0);
        }
        for (Making make : new Making[] {
            BoundaryTests::tableOfPairs,
            () -> grown(59),
            () -> rowOfPairs().with("finish"),
        }) {
            due(make.get(), ARGUMENT, "feed", -1);
            due(make.get(), ARGUMENT, "feed", 2);
            due(make.get(), ARGUMENT, "feed", END);
            due(make.get(), STATE, "feed", 0);
        }
        due(doubled(26, 2).rule(5, 2, 6, 3), TOO_MANY, "build");
        due(doubled(26, 1).rule(5, 2, 6, 3), CONFLICT, "build");
    }

    // ---- 1 to 5: the grammar

    private static void terminalsOfANewObject() {
        int[][] given = {{LOWEST, 3}, {-1, 3}, {0, 3}, {1, 1}, {2, 2}, {3, 3}, {6, 6}, {7, 7},
            {8, 3}, {9, 3}, {256 + 1, 3}, {65536 + 1, 3}, {HIGHEST, 3}};
        for (int[] g : given) {
            Maker x = new Maker(g[0], 6);
            due(x, ARGUMENT, "first", g[1] - 1);
            due(x, 0, "first", g[1]);
            due(x, 0, "first", g[1] + 5);
            due(x, ARGUMENT, "first", g[1] + 6);
        }
    }

    private static void nonterminalsOfANewObject() {
        int[][] given = {{LOWEST, 2}, {-1, 2}, {0, 2}, {1, 1}, {2, 2}, {3, 3}, {5, 5}, {6, 6},
            {7, 2}, {8, 2}, {256 + 1, 2}, {65536 + 1, 2}, {HIGHEST, 2}};
        for (int[] g : given) {
            Maker x = new Maker(7, g[0]);
            due(x, ARGUMENT, "first", 6);
            due(x, 0, "first", 7);
            due(x, 0, "first", 7 + g[1] - 1);
            due(x, ARGUMENT, "first", 7 + g[1]);
        }
        Maker y = new Maker(0, 7);
        due(y, ARGUMENT, "first", 2);
        due(y, 0, "first", 4);
        due(y, ARGUMENT, "first", 5);
    }

    private static void newObject() {
        Maker x = new Maker(2, 2);
        for (String call : new String[] {"states", "state", "depth", "used"}) {
            due(x, 0, call);
        }
        due(x, -1, "conflict", 0);
        due(x, -1, "conflict", 1);
        due(x, STATE, "symbol", 0);
        due(x, STATE, "build");
        due(x, STATE, "begin");
        due(x, STATE, "feed", 0);
        due(x, STATE, "finish");
        due(x, ELEMENT, "items", 0);
        due(x, ELEMENT, "item", 0, 0, 0);
        due(x, ELEMENT, "action", 0, 0);
        due(x, ELEMENT, "follow", 0, 2);
        due(x, ELEMENT, "use", 0);
        due(x, 0, "production", 2);
    }

    private static void objectsAreApart() {
        Maker x = rowOfPairs().fed(1, 1);
        Maker y = conflicting();
        Maker z = new Maker(2, 2);
        due(z, 0, "states");
        due(z, -1, "conflict", 0);
        due(x, -1, "conflict", 0);
        due(y, 0, "depth");
        due(x, 3, "depth");
        due(z, 0, "production", 3);
        due(x, 10, "states");
    }

    private static void productionOfNoNonterminal() {
        Maker x = new Maker(2, 2);
        for (int bad : new int[] {LOWEST, -2, -1, 0, 1, END, 5, 256 + 2, 65536 + 2, HIGHEST}) {
            due(x, ARGUMENT, "production", bad);
        }
        due(x, 0, "production", 2);
        due(x, 1, "production", 3);
    }

    private static void fourteenProductions() {
        Maker x = new Maker(2, 2);
        for (int p = 0; p < 14; p++) {
            due(x, p, "production", 2 + p % 2);
        }
        due(x, STATE, "production", 2);
        due(x, STATE, "production", 3);
        // The fourteenth is still the last one.
        due(x, DONE, "symbol", 1);
        due(x, 2, "first", 3);
        due(x, 0, "first", 2);
        due(x, STATE, "production", 2);
        // Thirteen leave room for one.
        Maker y = new Maker(2, 2);
        for (int p = 0; p < 13; p++) {
            y.rule(2, 1);
        }
        due(y, CONFLICT, "build");
        due(y, 13, "production", 2);
        due(y, STATE, "production", 2);
    }

    private static void productionWithTable() {
        Maker x = tableOfPairs();
        due(x, STATE, "production", 2);
        x.with("begin");
        due(x, STATE, "production", 3);
        x.with("open");
        due(x, 3, "production", 2);
        Maker y = conflicting();
        due(y, 2, "production", 2);
        Maker z = tooLarge();
        due(z, 3, "production", 2);
    }

    private static void symbolThatIsNone() {
        Maker x = new Maker(2, 2).rule(2);
        for (int bad : new int[] {LOWEST, -2, -1, END, 5, 256, 65536 + 1, HIGHEST}) {
            due(x, ARGUMENT, "symbol", bad);
        }
        due(x, "true", "nullable", 2);
        for (int s = 0; s < END; s++) {
            due(x, DONE, "symbol", s);
        }
    }

    private static void symbolWithoutProduction() {
        Maker x = new Maker(2, 2);
        due(x, STATE, "symbol", 0);
        due(x, STATE, "symbol", 3);
        x.rule(2);
        due(x, 0, "first", 2);
        due(x, DONE, "symbol", 1);
        due(x, 2, "first", 2);
        x.with("clear");
        due(x, STATE, "symbol", 1);
    }

    private static void fortySymbolsOfOne() {
        Maker x = new Maker(2, 2).rule(2);
        for (int i = 0; i < 40; i++) {
            due(x, DONE, "symbol", 1);
        }
        due(x, STATE, "symbol", 1);
        due(x, 42, "build");
        x.with("open");
        due(x, STATE, "symbol", 0);
    }

    private static void fortySymbolsOfFourteen() {
        Maker x = new Maker(2, 2).rule(2, times(27, 1));
        for (int p = 1; p < 14; p++) {
            due(x, p, "production", 3);
            due(x, DONE, "symbol", 0);
        }
        due(x, STATE, "symbol", 0);
        // No room for a symbol is still room for a production.
        Maker y = fullOfSymbols();
        due(y, STATE, "symbol", 0);
        due(y, 1, "production", 3);
        due(y, STATE, "symbol", 0);
        due(y, "true", "nullable", 3);
        due(y, 2, "production", 3);
    }

    private static void symbolWithTable() {
        Maker x = tableOfPairs();
        due(x, STATE, "symbol", 0);
        x.with("begin");
        due(x, STATE, "symbol", 0);
        x.with("open");
        due(x, DONE, "symbol", 0);
        due(conflicting(), DONE, "symbol", 0);
        due(tooLarge(), DONE, "symbol", 0);
    }

    private static void symbolGoesBehind() {
        Maker x = new Maker(2, 2).rule(2, 0).rule(2, 1, 0);
        due(x, 5, "build");
        x.with("begin");
        due(x, "true", "feed", 1);
        due(x, "true", "feed", 0);
        due(x, "true", "finish");
        due(x, 1, "use", 0);
    }

    private static void openWithoutTable() {
        Maker x = new Maker(2, 2).with("open");
        due(x, STATE, "build");
        due(x, 0, "production", 2);
        x.with("open", "open");
        due(x, "true", "nullable", 2);
        due(x, 2, "build");
        x.with("open", "open");
        due(x, 0, "states");
        due(x, 1, "production", 2);
    }

    private static void openEndsEachRow() {
        for (Making make : withRow()) {
            Maker x = make.get().with("open");
            for (String call : new String[] {"states", "state", "depth", "used"}) {
                due(x, 0, call);
            }
            due(x, ELEMENT, "use", 0);
            due(x, ELEMENT, "items", 0);
            due(x, ELEMENT, "item", 0, 0, 0);
            due(x, ELEMENT, "action", 0, 0);
            due(x, ELEMENT, "follow", 0, 2);
            due(x, STATE, "begin");
            due(x, STATE, "feed", 1);
            due(x, STATE, "finish");
            x.with("build");
            due(x, 0, "state");
            due(x, 0, "depth");
        }
    }

    private static void openKeepsGrammar() {
        Maker x = rowOfPairs().with("open");
        due(x, 3, "first", 2);
        due(x, 10, "build");
        x.with("open");
        due(x, 3, "production", 3);
    }

    private static void openKeepsConflict() {
        Maker x = conflicting();
        String state = x.ask("conflict", 0);
        same("a conflict", false, state.equals("-1"));
        x.with("open");
        due(x, state, "conflict", 0);
        due(x, 0, "conflict", 1);
        x.with("open");
        due(x, state, "conflict", 0);
        Maker y = tableOfPairs().with("open");
        due(y, -1, "conflict", 0);
    }

    private static void clearTakesAll() {
        Maker x = rowOfPairs().fed(1, 1).with("clear");
        for (String call : new String[] {"states", "state", "depth", "used", "production"}) {
            due(x, 0, call, 2);
        }
        x.with("clear");
        due(x, ELEMENT, "use", 0);
        due(x, ELEMENT, "items", 0);
        due(x, 0, "first", 2);
        due(x, "false", "nullable", 2);
        due(x, STATE, "begin");
        due(x, STATE, "feed", 0);
        due(x, STATE, "finish");
        due(x, STATE, "symbol", 0);
        due(x, STATE, "build");
        Maker y = conflicting().with("clear");
        due(y, -1, "conflict", 0);
        due(y, -1, "conflict", 1);
        Maker z = new Maker(2, 2).with("clear", "clear");
        due(z, 0, "production", 2);
        due(z, ARGUMENT, "first", 1);
        due(z, 0, "first", 3);
        due(z, ARGUMENT, "first", END);
    }

    private static void clearOfAFullGrammar() {
        Maker x = fullOfProductions();
        x.with("clear");
        for (int p = 0; p < 14; p++) {
            due(x, p, "production", 3);
        }
        due(x, STATE, "production", 3);
        Maker y = fullOfSymbols().with("clear").rule(3);
        for (int i = 0; i < 40; i++) {
            due(y, DONE, "symbol", 0);
        }
        due(y, STATE, "symbol", 0);
        due(y, 42, "build");
    }

    private static void clearTakesStart() {
        Maker x = rowOfPairs().with("clear").rule(3, 1).rule(2, 0, 0);
        due(x, 3, "build");
        due(x, 2, "follow", 0, 3);
        due(x, 0, "action", 0, 0);
        due(x, 2, "first", 3);
    }

    // ---- 6 to 12: the table

    private static void buildWithoutProduction() {
        Maker x = new Maker(2, 2);
        due(x, STATE, "build");
        x.rule(2);
        due(x, 2, "build");
        x.with("clear");
        due(x, STATE, "build");
    }

    private static void buildWithTable() {
        Maker x = tableOfPairs();
        due(x, STATE, "build");
        x.with("begin");
        due(x, STATE, "build");
        due(x, 10, "states");
        x.with("open");
        due(x, 10, "build");
    }

    private static void smallestTable() {
        Maker x = new Maker(1, 1).rule(1);
        due(x, 2, "build");
        due(x, 2, "items", 0);
        due(x, 1, "items", 1);
        due(x, 0, "action", 0, 0);
        due(x, -1, "action", 0, 2);
        due(x, 1000, "action", 1, 2);
        due(x, 1, "follow", 0, 1);
        due(x, -1, "follow", 1, 1);
    }

    private static void sixtyStates() {
        Maker x = doubled(26, 1);
        due(x, 60, "build");
        due(x, 60, "states");
        Maker y = doubled(26, 2);
        due(y, TOO_MANY, "build");
        due(y, 0, "states");
        due(y, -1, "conflict", 0);
        due(y, ELEMENT, "items", 0);
        due(y, STATE, "begin");
        due(y, TOO_MANY, "build");
        due(doubled(25, 3), 60, "build");
        due(doubled(25, 4), TOO_MANY, "build");
        due(doubled(27, 1), TOO_MANY, "build");
        // After too many the grammar is still there, and another one can be built.
        due(y, 3, "production", 5);
        y.with("clear").rule(5, 0);
        due(y, 3, "build");
    }

    private static void fullGrammar() {
        // S: 27 times 1, and thirteen more of A with a symbol each, to which nothing leads.
        Maker x = new Maker(7, 6).rule(7, times(27, 6));
        for (int p = 1; p < 14; p++) {
            x.rule(8 + p % 5, p % 7);
        }
        due(x, STATE, "symbol", 0);
        due(x, STATE, "production", 7);
        due(x, 29, "build");
        x.with("begin").fed(times(27, 6));
        due(x, 28, "depth");
        due(x, "true", "finish");
    }

    private static void tooManyAndConflict() {
        Maker x = doubled(26, 2).rule(5, 2, 6, 3);
        due(x, TOO_MANY, "build");
        due(x, -1, "conflict", 0);
        due(x, -1, "conflict", 1);
        Maker y = doubled(26, 1).rule(5, 2, 6, 3);
        due(y, CONFLICT, "build");
        due(y, 11, "conflict", 0);
        due(y, 7, "conflict", 1);
    }

    private static void conflictLeavesNoTable() {
        Maker x = conflicting();
        due(x, 0, "states");
        due(x, ELEMENT, "items", 0);
        due(x, ELEMENT, "item", 0, 0, 0);
        due(x, ELEMENT, "action", 0, 1);
        due(x, ELEMENT, "follow", 0, 2);
        due(x, STATE, "begin");
        due(x, STATE, "feed", 1);
        due(x, 0, "state");
        due(x, CONFLICT, "build");
    }

    private static void dueConflict(Maker x, int state, int symbol) {
        due(x, CONFLICT, "build");
        due(x, state, "conflict", 0);
        due(x, symbol, "conflict", 1);
    }

    private static void kindsOfConflict() {
        // Shift and reduce: S: A 0; S: 0; A: nothing.
        dueConflict(new Maker(2, 2).rule(2, 3, 0).rule(2, 0).rule(3), 0, 0);
        // Two reductions: S: A; S: 1; A: 1.
        dueConflict(new Maker(2, 2).rule(2, 3).rule(2, 1).rule(3, 1), 1, END);
        // The same production twice.
        dueConflict(new Maker(2, 2).rule(2, 1).rule(2, 1), 1, END);
        dueConflict(new Maker(2, 2).rule(2).rule(2), 0, END);
        // Accept and reduce: S: S.
        dueConflict(new Maker(2, 2).rule(2, 2), 1, END);
        // A shift and a reduction with another symbol are none: S: 0; S: 0 1.
        due(new Maker(2, 2).rule(2, 0).rule(2, 0, 1), 4, "build");
        // The same with what is ahead alone: S: A 0; S: B 1; A: nothing; B: nothing.
        due(new Maker(2, 3).rule(2, 3, 0).rule(2, 4, 1).rule(3).rule(4), 6, "build");
    }

    private static void firstConflict() {
        // S: 1 A; S: 0 A; A: 1; A: 1, in the state behind 0 1, then in that behind 1 1.
        dueConflict(new Maker(2, 2).rule(2, 1, 3, 1).rule(2, 0, 3, 0).rule(3, 1).rule(3, 1), 4, 0);
        // In one state with 0, with 1 and with END.
        dueConflict(new Maker(2, 2).rule(2, 2, 0).rule(2, 2, 1).rule(2).rule(2), 0, 0);
        dueConflict(new Maker(2, 2).rule(2, 2, 1).rule(2).rule(2), 0, 1);
        dueConflict(new Maker(2, 2).rule(2).rule(2), 0, END);
        // A lower state with a higher symbol comes before.
        dueConflict(new Maker(2, 2).rule(2, 3).rule(2, 0, 3, 0).rule(3).rule(3), 0, END);
    }

    private static void lastConflict() {
        // S: 20 times 0, twice: in the last of 22 states.
        dueConflict(new Maker(2, 2).rule(2, times(20, 0)).rule(2, times(20, 0)), 21, END);
        // S: 6; S: 6, with the most symbols: END is 13.
        dueConflict(new Maker(7, 6).rule(12, 6).rule(12, 6), 1, 13);
        // S: A 6; A: nothing; A: nothing.
        dueConflict(new Maker(7, 6).rule(7, 12, 6).rule(12).rule(12), 0, 6);
    }

    private static void conflictAfterRefusedBuild() {
        Maker x = conflicting();
        String state = x.ask("conflict", 0);
        due(x, CONFLICT, "build");
        due(x, state, "conflict", 0);
        Maker y = tableOfPairs();
        due(y, STATE, "build");
        due(y, -1, "conflict", 0);
        due(y, -1, "conflict", 1);
        Maker z = new Maker(2, 2);
        due(z, STATE, "build");
        due(z, -1, "conflict", 0);
    }

    private static void conflictAfterChange() {
        for (String call : new String[] {"production", "symbol"}) {
            Maker x = conflicting();
            due(x, ARGUMENT, call, END);
            same("told after a refused " + call, false, x.ask("conflict", 0).equals("-1"));
            due(x, 0, "conflict", 1);
            x.ask(call, 2);
            due(x, -1, "conflict", 0);
            due(x, -1, "conflict", 1);
        }
        // A full grammar's refusals change nothing of it.
        Maker y = new Maker(2, 2).rule(2).rule(2, times(40, 1));
        for (int p = 2; p < 14; p++) {
            y.rule(2);
        }
        dueConflict(y, 0, END);
        due(y, STATE, "production", 2);
        due(y, STATE, "symbol", 0);
        due(y, 0, "conflict", 0);
        due(y, END, "conflict", 1);
        // The change takes the conflict away.
        Maker z = new Maker(2, 2).rule(2, 1).rule(2, 3).rule(3, 1);
        due(z, CONFLICT, "build");
        due(z, DONE, "symbol", 0);
        due(z, 5, "build");
        due(z, -1, "conflict", 0);
    }

    private static void conflictOfAnotherWhat() {
        for (Making make : new Making[] {
            BoundaryTests::conflicting,
            BoundaryTests::tableOfPairs,
            () -> new Maker(2, 2),
        }) {
            Maker x = make.get();
            for (int what : new int[] {LOWEST, -2, -1, 2, 3, 256, 65536 + 1, HIGHEST}) {
                due(x, -1, "conflict", what);
            }
        }
    }

    private static void statesWithoutTable() {
        due(new Maker(2, 2), 0, "states");
        due(pairs(), 0, "states");
        due(tableOfPairs(), 10, "states");
        due(tableOfPairs().with("open"), 0, "states");
        due(tableOfPairs().with("clear"), 0, "states");
        due(tableOfPairs().with("build"), 10, "states");
        due(conflicting(), 0, "states");
        due(tooLarge(), 0, "states");
        due(doubled(26, 1).with("build"), 60, "states");
    }

    private static void itemsOfNoState() {
        Maker x = tableOfPairs();
        due(x, 6, "items", 0);
        due(x, 1, "items", 9);
        for (int bad : new int[] {LOWEST, -1, 10, 256, 65536, HIGHEST}) {
            due(x, ELEMENT, "items", bad);
        }
        Maker y = doubled(26, 1).with("build");
        due(y, 1, "items", 59);
        due(y, ELEMENT, "items", 60);
        // A smaller table after a larger one has no states of that.
        x.with("clear").rule(2, 1).with("build");
        due(x, 1, "items", 2);
        due(x, ELEMENT, "items", 3);
    }

    private static void fewestAndMostItems() {
        // S: S A; S: A, and A: 0; .. A: 6: in state 0 all of A's with each terminal and END.
        Maker x = new Maker(7, 2).rule(7, 7, 8).rule(7, 8);
        for (int a = 0; a < 7; a++) {
            x.rule(8, a);
        }
        x.with("build");
        due(x, 1 + 9 * 8, "items", 0);
        dueItem(x, 0, 72, 8, 0, 9);
        dueItem(x, 0, 71, 8, 0, 6);
        due(x, ELEMENT, "item", 0, 73, 0);
        due(x, 8, "items", 1);
        dueItem(x, 1, 7, 2, 1, 9);
        due(tableOfPairs(), 1, "items", 3);
    }

    private static void itemThatIsNone() {
        Maker x = tableOfPairs();
        dueItem(x, 0, 0, -1, 0, END);
        dueItem(x, 0, 5, 2, 0, 1);
        dueItem(x, 9, 0, 1, 2, END);
        for (int bad : new int[] {LOWEST, -1, 6, 256, 65536, HIGHEST}) {
            due(x, ELEMENT, "item", 0, bad, 0);
        }
        due(x, ELEMENT, "item", 9, 1, 0);
        for (int bad : new int[] {LOWEST, -1, 10, 256, 65536, HIGHEST}) {
            due(x, ELEMENT, "item", bad, 0, 0);
        }
        x.with("open");
        due(x, ELEMENT, "item", 0, 0, 0);
    }

    private static void itemOfAnotherWhat() {
        Maker x = tableOfPairs();
        due(x, 1, "item", 0, 3, 0);
        due(x, 0, "item", 0, 3, 1);
        due(x, 1, "item", 0, 3, 2);
        for (int bad : new int[] {LOWEST, -2, -1, 3, 4, 256, 65536 + 1, HIGHEST}) {
            due(x, ELEMENT, "item", 0, 0, bad);
        }
    }

    private static void itemsInOrder() {
        // S: 0 S 1; S: 0 1: behind 0 two places of each production.
        Maker x = new Maker(2, 2).rule(2, 0, 2, 1).rule(2, 0, 1).with("build");
        int state = x.number("action", 0, 0) - 1;
        due(x, 4, "items", state);
        dueItem(x, state, 0, 0, 0, 1);
        dueItem(x, state, 1, 0, 1, END);
        dueItem(x, state, 2, 1, 0, 1);
        dueItem(x, state, 3, 1, 1, END);
        // END, behind all nonterminals, is the highest a.
        Maker y = flat(0);
        dueItem(y, 0, 1, 0, 0, 0);
        dueItem(y, 0, 2, 0, 0, END);
    }

    private static void actionOfNone() {
        Maker x = tableOfPairs();
        due(x, 2, "action", 0, 0);
        due(x, 3, "action", 0, 1);
        due(x, 0, "action", 0, END);
        for (int bad : new int[] {LOWEST, -1, 2, 3, 5, 256, 65536, HIGHEST}) {
            due(x, ELEMENT, "action", 0, bad);
        }
        due(x, -2, "action", 9, END);
        for (int bad : new int[] {LOWEST, -1, 10, 256, 65536, HIGHEST}) {
            due(x, ELEMENT, "action", bad, 0);
        }
        due(x, ELEMENT, "action", 10, 5);
        due(pairs(), ELEMENT, "action", 0, 0);
    }

    private static void outermostActions() {
        // The last of sixty states is behind z and 26 times a.
        Maker x = doubled(26, 1).with("build");
        int found = 0;
        for (int state = 0; state < 60; state++) {
            found = Math.max(found, x.number("action", state, 4));
        }
        same("the highest shift", 60, found);
        due(x, 0, "action", 59, 4);
        due(x, -3, "action", 59, 3);
        // S: A; A: 1; .. A: 6; A: 0 1; .. A: 0 6; A: 0 0, which is the fourteenth.
        Maker y = new Maker(7, 6).rule(7, 8);
        for (int p = 1; p < 7; p++) {
            y.rule(8, p);
        }
        for (int p = 7; p < 13; p++) {
            y.rule(8, 0, p - 6);
        }
        y.rule(8, 0, 0).with("build");
        int behind0 = y.number("action", 0, 0) - 1;
        int behind00 = y.number("action", behind0, 0) - 1;
        due(y, -14, "action", behind00, 13);
        due(y, -1, "action", y.number("follow", 0, 8), 13);
        due(y, 1000, "action", y.number("follow", 0, 7), 13);
        due(y, 0, "action", y.number("follow", 0, 7), 0);
    }

    private static void followOfNone() {
        Maker x = tableOfPairs();
        due(x, 3, "follow", 0, 2);
        due(x, 4, "follow", 0, 3);
        for (int bad : new int[] {LOWEST, -1, 0, 1, END, 5, 256 + 2, 65536 + 2, HIGHEST}) {
            due(x, ELEMENT, "follow", 0, bad);
        }
        due(x, -1, "follow", 9, 2);
        for (int bad : new int[] {LOWEST, -1, 10, 256, 65536, HIGHEST}) {
            due(x, ELEMENT, "follow", bad, 2);
        }
        due(x, ELEMENT, "follow", 10, 0);
        due(pairs(), ELEMENT, "follow", 0, 2);
    }

    private static void followNone() {
        Maker x = tableOfPairs();
        due(x, -1, "follow", 1, 2);
        due(x, 5, "follow", 1, 3);
        due(x, -1, "follow", 2, 3);
        // A nonterminal without productions has gotos all the same; one that nothing has, none.
        Maker y = new Maker(2, 3).rule(2, 3, 0).with("build");
        due(y, 2, "follow", 0, 3);
        due(y, -1, "follow", 0, 4);
    }

    // ---- 13 and 14: nullable and first

    private static void nullableOfNone() {
        Maker x = new Maker(2, 2).rule(2).rule(3);
        for (int bad : new int[] {LOWEST, -1, 0, 1, END, 5, 256 + 2, 65536 + 2, HIGHEST}) {
            due(x, ARGUMENT, "nullable", bad);
        }
        due(x, "true", "nullable", 2);
        due(x, "true", "nullable", 3);
    }

    private static void nullableEdges() {
        due(new Maker(2, 2), "false", "nullable", 2);
        due(new Maker(2, 2).rule(2, 2), "false", "nullable", 2);
        due(new Maker(2, 2).rule(2, 3).rule(3, 2), "false", "nullable", 2);
        due(new Maker(2, 2).rule(2, 2).rule(2), "true", "nullable", 2);
        due(new Maker(2, 2).rule(2, 3, 3, 0).rule(3), "false", "nullable", 2);
        due(new Maker(2, 2).rule(2, times(39, 3)).rule(3), "true", "nullable", 2);
        // Through all six, the empty one told last.
        Maker x = new Maker(1, 6);
        for (int s = 1; s < 6; s++) {
            x.rule(s, s + 1, s + 1);
        }
        due(x, "false", "nullable", 1);
        x.rule(6);
        due(x, "true", "nullable", 1);
        due(x, "true", "nullable", 5);
    }

    private static void nullableFollowsGrammar() {
        Maker x = new Maker(2, 2);
        due(x, "false", "nullable", 3);
        x.rule(2, 3);
        due(x, "false", "nullable", 2);
        x.rule(3);
        due(x, "true", "nullable", 2);
        x.with("build");
        due(x, "true", "nullable", 2);
        x.with("open");
        due(x, DONE, "symbol", 0);
        due(x, "false", "nullable", 2);
        due(x, "false", "nullable", 3);
        due(x, 1, "first", 2);
        x.with("clear");
        due(x, 0, "first", 2);
    }

    private static void firstOfNone() {
        Maker x = new Maker(2, 2).rule(2, 0).rule(3, 1);
        for (int bad : new int[] {LOWEST, -1, 0, 1, END, 5, 256 + 2, 65536 + 2, HIGHEST}) {
            due(x, ARGUMENT, "first", bad);
        }
        due(x, 1, "first", 2);
        due(x, 2, "first", 3);
    }

    private static void firstEdges() {
        due(new Maker(2, 2), 0, "first", 2);
        due(new Maker(2, 2).rule(2), 0, "first", 2);
        due(new Maker(2, 2).rule(2, 2, 1), 0, "first", 2);
        due(new Maker(2, 2).rule(2, 2, 1).rule(2), 2, "first", 2);
        due(new Maker(2, 2).rule(2, 3, 1).rule(3), 2, "first", 2);
        due(new Maker(2, 2).rule(2, 3, 1).rule(3, 0), 1, "first", 2);
        due(new Maker(2, 2).rule(2, 3, 1).rule(3, 0).rule(3), 3, "first", 2);
        due(new Maker(7, 6).rule(12, 0), 1, "first", 12);
        due(new Maker(7, 6).rule(7, 6), 64, "first", 7);
        Maker x = new Maker(7, 6);
        for (int a = 0; a < 7; a++) {
            x.rule(12, a);
        }
        due(x, 127, "first", 12);
        // Through all six, the last told first.
        for (int s = 7; s < 12; s++) {
            x.rule(s, s + 1);
        }
        due(x, 127, "first", 7);
        // Past the most nullable ones: S: 38 times A, 1; A: nothing.
        int[] row = times(39, 3);
        row[38] = 1;
        due(new Maker(2, 2).rule(2, row).rule(3), 2, "first", 2);
    }

    private static void firstBeforeUnmade() {
        // S: 0 A, and A has no productions, or none that ends.
        due(new Maker(2, 2).rule(2, 0, 3), 1, "first", 2);
        due(new Maker(2, 2).rule(2, 0, 3).rule(3, 1, 3), 1, "first", 2);
        due(new Maker(2, 2).rule(2, 0, 3).rule(3, 1, 3), 2, "first", 3);
        due(new Maker(2, 2).rule(2, 3, 0), 0, "first", 2);
        due(new Maker(2, 2).rule(2, 3, 0).rule(3, 1, 3), 2, "first", 2);
    }

    // ---- 15 to 21: the driver

    private static void beginWithoutTable() {
        for (Making make : new Making[] {
            () -> new Maker(2, 2),
            BoundaryTests::pairs,
            BoundaryTests::conflicting,
            BoundaryTests::tooLarge,
            () -> rowOfPairs().with("open"),
            () -> rowOfPairs().with("clear"),
        }) {
            Maker x = make.get();
            due(x, STATE, "begin");
            due(x, 0, "state");
            due(x, 0, "depth");
        }
    }

    private static void beginAgain() {
        for (Making make : withRow()) {
            Maker x = make.get();
            due(x, DONE, "begin");
            due(x, 1, "state");
            due(x, 1, "depth");
            due(x, 0, "used");
            due(x, ELEMENT, "use", 0);
            x.fed(1, 0, 1);
            due(x, "true", "finish");
            due(x, 4, "used");
        }
    }

    private static void feedOfNoTerminal() {
        Maker x = rowOfPairs();
        for (int bad : new int[] {LOWEST, -1, 2, 3, END, 5, 256, 65536 + 1, HIGHEST}) {
            due(x, ARGUMENT, "feed", bad);
        }
        due(x, 1, "state");
        due(x, 1, "depth");
        due(x, "true", "feed", 0);
        due(x, "true", "feed", 1);
    }

    private static void feedWithoutRow() {
        for (Making make : withoutRow()) {
            Maker x = make.get();
            due(x, STATE, "feed", 1);
            due(x, 0, "state");
            due(x, 0, "depth");
        }
    }

    private static void feedOfAnEndedRow() {
        Maker x = rowOfPairs().fed(1, 1, 0);
        due(x, 3, "state");
        due(x, STATE, "feed", 0);
        due(x, STATE, "feed", 1);
        Maker y = rowOfPairs().with("finish");
        due(y, STATE, "feed", 1);
        due(y, 3, "state");
        Maker z = rowOfPairs().fed(1, 1).with("finish");
        due(z, STATE, "feed", 1);
        due(z, 2, "state");
        // An accepted row whose table has an action with this token: S: nothing; S: S 0.
        Maker w = flat(1).with("finish");
        due(w, STATE, "feed", 0);
        due(w, 2, "state");
    }

    private static void feedUponSixty() {
        Maker x = grown(57);
        due(x, 58, "depth");
        due(x, "true", "feed", 0);
        due(x, 59, "depth");
        due(x, "true", "feed", 0);
        due(x, 60, "depth");
        due(x, STATE, "feed", 0);
        // 1 has no action, and is not looked up.
        due(x, STATE, "feed", 1);
        due(x, 1, "state");
        due(x, 60, "depth");
        due(x, "true", "finish");
        due(x, 60, "used");
        due(x, 2, "depth");
        Maker y = grown(58);
        due(y, "false", "feed", 1);
        due(y, 3, "state");
        due(y, 59, "depth");
    }

    private static void feedUponMore() {
        // S: 0 S; S: 35 times A, 1; A: nothing: 1 puts 36 states upon 58 or 59.
        int[] row = times(36, 3);
        row[35] = 1;
        for (int depth : new int[] {24, 25, 26, 58, 59}) {
            Maker x = new Maker(2, 2).rule(2, 0, 2).rule(2, row).rule(3).with("build", "begin");
            x.fed(times(depth - 1, 0));
            due(x, depth, "depth");
            due(x, "true", "feed", 1);
            due(x, depth + 36, "depth");
            due(x, 35, "used");
            due(x, depth + 36 >= 60 ? STATE : "false", "feed", 1);
            due(x, depth + 36 >= 60 ? 1 : 3, "state");
            due(x, depth + 36, "depth");
            due(x, depth + 36 >= 60 ? "true" : STATE, "finish");
        }
    }

    private static void finishWithoutRow() {
        for (Making make : withoutRow()) {
            Maker x = make.get();
            due(x, STATE, "finish");
            due(x, 0, "state");
        }
    }

    private static void finishOfAnEndedRow() {
        Maker x = rowOfPairs();
        due(x, "false", "finish");
        due(x, STATE, "finish");
        due(x, 3, "state");
        Maker y = rowOfPairs().fed(1, 1);
        due(y, "true", "finish");
        due(y, STATE, "finish");
        due(y, 2, "state");
        due(y, 3, "used");
        Maker z = rowOfPairs().fed(1, 1, 1);
        due(z, STATE, "finish");
    }

    private static void finishOfAnEmptyRow() {
        Maker x = grown(0);
        due(x, "true", "finish");
        due(x, 1, "used");
        due(x, 2, "state");
        Maker y = rowOfPairs();
        due(y, "false", "finish");
        due(y, 0, "used");
        due(y, 1, "depth");
    }

    private static void stateOfEachRow() {
        due(new Maker(2, 2), 0, "state");
        due(tableOfPairs(), 0, "state");
        due(rowOfPairs(), 1, "state");
        due(rowOfPairs().fed(1, 1), 1, "state");
        due(rowOfPairs().fed(1, 1).with("finish"), 2, "state");
        due(rowOfPairs().fed(1).with("finish"), 3, "state");
        due(rowOfPairs().fed(1, 1, 1), 3, "state");
        due(rowOfPairs().with("open"), 0, "state");
        due(rowOfPairs().with("clear"), 0, "state");
        due(grown(59), 1, "state");
    }

    private static void depthWithoutRow() {
        due(new Maker(2, 2), 0, "depth");
        due(tableOfPairs(), 0, "depth");
        due(rowOfPairs(), 1, "depth");
        due(rowOfPairs().fed(0, 0, 1), 4, "depth");
        due(rowOfPairs().fed(0, 0, 1).with("open"), 0, "depth");
        due(rowOfPairs().fed(0, 0, 1).with("clear"), 0, "depth");
        due(rowOfPairs().fed(1, 1).with("finish"), 2, "depth");
        due(grown(59), 60, "depth");
    }

    private static void usedBeyondKept() {
        Maker x = flat(0);
        due(x, 0, "used");
        x.fed(times(199, 0));
        for (int used = 199; used <= 202; used++) {
            due(x, used, "used");
            due(x, "true", "feed", 0);
        }
        x.fed(times(100, 0));
        due(x, 303, "used");
        due(x, "true", "finish");
        due(x, 304, "used");
        x.with("begin");
        due(x, 0, "used");
        // More in one call than a byte or a short holds: A, B, C, D, E, each eight times the next.
        Maker y = new Maker(1, 6);
        for (int s = 1; s < 6; s++) {
            y.rule(s, times(8, s + 1));
        }
        y.rule(6).with("build", "begin");
        due(y, "true", "finish");
        due(y, 1 + 8 + 64 + 512 + 4096 + 32768, "used");
        due(y, 5, "use", 198);
        due(y, 4, "use", 199);
        due(y, ELEMENT, "use", 200);
    }

    private static void useOfNone() {
        due(new Maker(2, 2), ELEMENT, "use", 0);
        due(tableOfPairs(), ELEMENT, "use", 0);
        due(rowOfPairs(), ELEMENT, "use", 0);
        Maker x = rowOfPairs().fed(1, 0, 1).with("finish");
        due(x, 4, "used");
        due(x, 2, "use", 0);
        due(x, 2, "use", 1);
        due(x, 1, "use", 2);
        due(x, 0, "use", 3);
        for (int bad : new int[] {LOWEST, -1, 4, 5, 199, 200, 256, 65536, HIGHEST}) {
            due(x, ELEMENT, "use", bad);
        }
        // What an earlier, longer row left is not told.
        x.with("begin").fed(1, 1);
        due(x, 2, "use", 0);
        due(x, ELEMENT, "use", 1);
        x.with("open");
        due(x, ELEMENT, "use", 0);
    }

    private static void useOfTheFirst200() {
        Maker x = flat(199);
        due(x, 0, "use", 0);
        due(x, 1, "use", 198);
        due(x, ELEMENT, "use", 199);
        x.fed(0);
        due(x, 1, "use", 199);
        due(x, ELEMENT, "use", 200);
        x.fed(0);
        due(x, 201, "used");
        due(x, 1, "use", 199);
        due(x, ELEMENT, "use", 200);
        due(x, ELEMENT, "use", 201);
        // It is the first that are kept, not the last.
        x.fed(times(100, 0));
        due(x, 0, "use", 0);
        due(x, 1, "use", 1);
        due(x, ELEMENT, "use", 300);
    }

    // ---- a refused call changes nothing

    private static void refusedCallsChangeNothing() {
        refusedWithoutTable();
        refusedWithTable();
        refusedWithRow();
    }

    private static void refusedWithoutTable() {
        String noTable = "begin, feed 0, feed 1, finish, items 0, item 0 0 0, action 0 0,"
                + " follow 0 2, use 0";
        keep("a new object", () -> new Maker(2, 2), "symbol 0, symbol 3, build, " + noTable);
        keep("an empty production", () -> new Maker(2, 2).rule(3), noTable);
        keep("a grammar", BoundaryTests::pairs, noTable);
        keep("14 productions", BoundaryTests::fullOfProductions,
                "production 2, production 3, " + noTable);
        keep("40 symbols", BoundaryTests::fullOfSymbols,
                "symbol 0, symbol 1, symbol 2, " + noTable);
        keep("a conflict", BoundaryTests::conflicting, "build, " + noTable);
        keep("too many states", BoundaryTests::tooLarge, "build, " + noTable);
        keep("an opened table", () -> rowOfPairs().fed(1, 1).with("open"), noTable);
        keep("a cleared object", () -> rowOfPairs().fed(1, 1).with("clear"),
                "symbol 1, build, " + noTable);
    }

    private static void refusedWithTable() {
        String table = "production 2, production 3, symbol 0, symbol 3, build";
        keep("a table", BoundaryTests::tableOfPairs, table + ", feed 0, feed 1, finish, items 10,"
                + " item 10 0 0, item 0 6 0, item 0 0 3, action 0 5, action 10 0, action 0 2,"
                + " follow 0 1, follow 10 2, use 0");
        keep("a full grammar's table", () -> fullOfSymbols().with("build"), table);
    }

    private static void refusedWithRow() {
        String table = "production 2, production 3, symbol 0, symbol 3, build, ";
        keep("a row", () -> rowOfPairs().fed(0, 1, 0), table + "items 10, item 0 0 -1, action 0 3,"
                + " follow 0 4, use 2");
        String ended = table + "feed 0, feed 1, finish, ";
        keep("a refused token", () -> rowOfPairs().fed(1, 1, 1), ended + "use 1");
        keep("a refused end", () -> rowOfPairs().fed(1).with("finish"), ended + "use 0");
        keep("an accepted row", () -> rowOfPairs().fed(1, 1).with("finish"), ended + "use 3");
        keep("60 states on the stack", () -> grown(59), table + "feed 0, feed 1, use 0");
        keep("200 used", () -> flat(200), table + "use 200");
        keep("201 used", () -> flat(201), table + "use 200, use 201");
    }

    /** These, and the calls that are refused everywhere for what they are given. */
    private static void keep(String where, Making make, String calls) {
        test = "a refused call changes nothing, with " + where;
        String due = observe(make.get());
        String everywhere = "production -1, production 1, production 4, symbol -1, symbol 4,"
                + " nullable -1, nullable 1, nullable 4, first -1, first 1, first 4, feed -1,"
                + " feed 2, feed 4, items -1, item -1 0 0, item 0 -1 0, item 0 0 -2, action -1 0,"
                + " action 0 -1, follow -1 2, follow 0 0, use -1, ";
        for (String call : (everywhere + calls).split(", ")) {
            keepOne(make.get(), due, call);
        }
    }

    private static void keepOne(Maker x, String due, String call) {
        String[] words = call.split(" ");
        int[] a = new int[words.length - 1];
        for (int i = 0; i < a.length; i++) {
            a[i] = Integer.parseInt(words[i + 1]);
        }
        String got = x.ask(words[0], a);
        same(call + " is refused", true, got.endsWith("Exception"));
        same("after " + call, due, observe(x));
    }

    /** All that can be seen of an object, and, last, what is inside and shows in later calls. */
    private static String observe(Maker x) {
        StringBuilder seen = new StringBuilder();
        for (String call : new String[] {"conflict 0", "conflict 1", "states", "state", "depth",
            "used", "use 0", "use 1", "use 2", "use 199", "nullable 2", "nullable 3", "first 2",
            "first 3"}) {
            String[] words = call.split(" ");
            look(seen, x, words[0], words.length == 1 ? 0 : Integer.parseInt(words[1]));
        }
        lookAtTable(seen, x);
        lookAtRow(seen, x);
        lookAtGrammar(seen, x);
        return seen.toString();
    }

    private static String look(StringBuilder seen, Maker x, String call, int... a) {
        String got = x.ask(call, a);
        seen.append(call).append(Arrays.toString(a)).append(' ').append(got).append('\n');
        return got;
    }

    private static void lookAtTable(StringBuilder seen, Maker x) {
        int states = x.number("states");
        for (int state = 0; state < states && states <= 10; state++) {
            int items = Integer.parseInt(look(seen, x, "items", state));
            for (int k = 0; k < items; k++) {
                look(seen, x, "item", state, k, 0);
                look(seen, x, "item", state, k, 1);
                look(seen, x, "item", state, k, 2);
            }
            look(seen, x, "action", state, 0);
            look(seen, x, "action", state, 1);
            look(seen, x, "action", state, END);
            look(seen, x, "follow", state, 2);
            look(seen, x, "follow", state, 3);
        }
    }

    private static void lookAtRow(StringBuilder seen, Maker x) {
        look(seen, x, "feed", 1);
        look(seen, x, "finish");
        look(seen, x, "state");
        look(seen, x, "depth");
        look(seen, x, "used");
        for (int k = 0; k < 6; k++) {
            look(seen, x, "use", k);
        }
    }

    /** How many states it makes, to which production the next symbol goes, and the room left. */
    private static void lookAtGrammar(StringBuilder seen, Maker x) {
        look(seen, x, "open");
        look(seen, x, "build");
        look(seen, x, "conflict", 0);
        look(seen, x, "conflict", 1);
        look(seen, x, "open");
        look(seen, x, "symbol", 1);
        look(seen, x, "build");
        look(seen, x, "open");
        String got = DONE;
        for (int i = 0; i <= 40 && got.equals(DONE); i++) {
            got = look(seen, x, "symbol", 0);
        }
        got = "0";
        for (int i = 0; i <= 14 && !got.equals(STATE); i++) {
            got = look(seen, x, "production", 2);
        }
        look(seen, x, "build");
    }

    // ---- 512 calls

    /** The 512th call answers as the document says, whichever call it is. */
    private static void lastOfTheCalls() {
        due(usedUp(() -> new Maker(2, 2)), 0, "production", 2);
        due(usedUp(() -> new Maker(2, 2)), ARGUMENT, "production", 1);
        due(usedUp(BoundaryTests::fullOfProductions), STATE, "production", 2);
        due(usedUp(BoundaryTests::fullOfSymbols), STATE, "symbol", 1);
        due(usedUp(BoundaryTests::pairs), DONE, "symbol", 1);
        due(usedUp(BoundaryTests::pairs), 10, "build");
        due(usedUp(BoundaryTests::conflicting), CONFLICT, "build");
        due(usedUp(BoundaryTests::tooLarge), TOO_MANY, "build");
        due(usedUp(BoundaryTests::conflicting), 0, "conflict", 1);
        due(usedUp(BoundaryTests::tableOfPairs), DONE, "open");
        due(usedUp(BoundaryTests::tableOfPairs), DONE, "clear");
        due(usedUp(BoundaryTests::tableOfPairs), DONE, "begin");
        due(usedUp(BoundaryTests::tableOfPairs), 10, "states");
        due(usedUp(BoundaryTests::tableOfPairs), 6, "items", 0);
        due(usedUp(BoundaryTests::tableOfPairs), 4, "item", 0, 0, 2);
        due(usedUp(BoundaryTests::tableOfPairs), 1000, "action", 3, END);
        due(usedUp(BoundaryTests::tableOfPairs), 4, "follow", 0, 3);
        due(usedUp(BoundaryTests::tableOfPairs), "false", "nullable", 3);
        due(usedUp(BoundaryTests::tableOfPairs), 3, "first", 3);
        due(usedUp(BoundaryTests::rowOfPairs), "true", "feed", 1);
        due(usedUp(() -> rowOfPairs().fed(1, 1)), "true", "finish");
        due(usedUp(() -> rowOfPairs().fed(1, 1)), 3, "depth");
        due(usedUp(() -> rowOfPairs().fed(1, 1)), 1, "state");
        due(usedUp(() -> grown(59)), STATE, "feed", 0);
        due(usedUp(() -> grown(59)), "true", "finish");
        due(usedUp(() -> flat(200)), 1, "use", 199);
        due(usedUp(() -> flat(200)), ELEMENT, "use", 200);
        // Six calls before the first token, and this one.
        due(flat(MOST_CALLS - 7), MOST_CALLS - 7, "used");
    }

    /** An object that has room for one call more. */
    private static Maker usedUp(Making make) {
        Maker x = make.get();
        while (x.calls < MOST_CALLS - 1) {
            x.with("state");
        }
        return x;
    }
}
