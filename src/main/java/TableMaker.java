import java.util.Arrays;
import java.util.NoSuchElementException;

/**
 * A maker of tables for grammars that are read from the left with one symbol ahead: productions
 * come symbol by symbol, sets of items become numbered states, states become actions, conflicts
 * are told, and a driver reads a row of tokens by the table and leaves the productions that were
 * used.
 */
public final class TableMaker {
    public static final int NONE = -1;

    private static final int MOST_TERMINALS = 7;
    private static final int MOST_NONTERMINALS = 6;
    private static final int MOST_PRODUCTIONS = 14;
    private static final int MOST_SYMBOLS = 40;
    private static final int MOST_STATES = 60;
    private static final int MOST_KEPT = 200;
    // Each production has one place more than symbols; the outer start has two.
    private static final int MOST_PLACES = MOST_SYMBOLS + MOST_PRODUCTIONS + 2;
    private static final int MOST_ITEMS = MOST_PLACES * (MOST_TERMINALS + 1);

    private static final int ACCEPT = 1000;
    private static final int NO_ACTION = 0;

    private static final int NO_ROW = 0;
    private static final int BEGUN = 1;
    private static final int ACCEPTED = 2;
    private static final int REFUSED = 3;

    private final Grammar grammar;
    private final States states;
    private final Actions actions;
    private final Driver driver;
    private boolean hasTable;

    public TableMaker(int t, int n) {
        int terminals = t >= 1 && t <= MOST_TERMINALS ? t : 3;
        int nonterminals = n >= 1 && n <= MOST_NONTERMINALS ? n : 2;
        grammar = new Grammar(terminals, nonterminals);
        states = new States(grammar);
        actions = new Actions(grammar, states);
        driver = new Driver(grammar, states, actions);
        hasTable = false;
    }

    public int production(int left) throws IllegalArgumentException, IllegalStateException {
        if (!grammar.isNonterminal(left)) {
            throw new IllegalArgumentException("no nonterminal");
        }
        if (hasTable || !grammar.hasRoomForProduction()) {
            throw new IllegalStateException("there is a table, or no room");
        }
        actions.forgetConflict();
        return grammar.addProduction(left);
    }

    public void symbol(int s) throws IllegalArgumentException, IllegalStateException {
        if (!grammar.isSymbol(s)) {
            throw new IllegalArgumentException("no symbol");
        }
        if (hasTable || !grammar.hasRoomForSymbol()) {
            throw new IllegalStateException("there is a table, no production, or no room");
        }
        actions.forgetConflict();
        grammar.addSymbol(s);
    }

    public void open() {
        hasTable = false;
        driver.leaveRow();
    }

    public void clear() {
        hasTable = false;
        driver.leaveRow();
        actions.forgetConflict();
        grammar.forgetAll();
    }

    public int build()
            throws IllegalStateException, ArithmeticException, UnsupportedOperationException {
        if (hasTable || grammar.isEmpty()) {
            throw new IllegalStateException("there is a table, or no production");
        }
        actions.forgetConflict();
        if (!states.collect()) {
            throw new ArithmeticException("too many states");
        }
        if (!actions.decide()) {
            throw new UnsupportedOperationException("a conflict");
        }
        hasTable = true;
        return states.count();
    }

    public int conflict(int what) {
        if (what == 0) {
            return actions.conflictState();
        }
        return what == 1 ? actions.conflictSymbol() : NONE;
    }

    public int states() {
        return hasTable ? states.count() : 0;
    }

    public int items(int state) throws NoSuchElementException {
        if (!isState(state)) {
            throw new NoSuchElementException("no such state");
        }
        return states.countItems(state);
    }

    public int item(int state, int k, int what) throws NoSuchElementException {
        if (!isState(state) || k < 0 || k >= states.countItems(state)) {
            throw new NoSuchElementException("no such item");
        }
        if (what < 0 || what > 2) {
            throw new NoSuchElementException("no such part of an item");
        }
        return states.partOfItem(state, k, what);
    }

    public int action(int state, int a) throws NoSuchElementException {
        int seat = grammar.seatOf(a);
        if (!isState(state) || seat == NONE) {
            throw new NoSuchElementException("no such state or symbol");
        }
        return actions.at(state, seat);
    }

    public int follow(int state, int s) throws NoSuchElementException {
        if (!isState(state) || !grammar.isNonterminal(s)) {
            throw new NoSuchElementException("no such state or symbol");
        }
        return states.gotoOf(state, s);
    }

    public boolean nullable(int s) throws IllegalArgumentException {
        if (!grammar.isNonterminal(s)) {
            throw new IllegalArgumentException("no nonterminal");
        }
        grammar.analyse();
        return grammar.makesEmpty(s);
    }

    public int first(int s) throws IllegalArgumentException {
        if (!grammar.isNonterminal(s)) {
            throw new IllegalArgumentException("no nonterminal");
        }
        grammar.analyse();
        return grammar.firstsOf(s);
    }

    public void begin() throws IllegalStateException {
        if (!hasTable) {
            throw new IllegalStateException("no table");
        }
        driver.beginRow();
    }

    public boolean feed(int token) throws IllegalArgumentException, IllegalStateException {
        if (!grammar.isTerminal(token)) {
            throw new IllegalArgumentException("no terminal");
        }
        if (driver.phase() != BEGUN || driver.height() >= MOST_STATES) {
            throw new IllegalStateException("no row goes on, or the stack is full");
        }
        return driver.read(grammar.seatOf(token));
    }

    public boolean finish() throws IllegalStateException {
        if (driver.phase() != BEGUN) {
            throw new IllegalStateException("no row goes on");
        }
        return driver.read(grammar.endSeat());
    }

    public int state() {
        return driver.phase();
    }

    public int depth() {
        return driver.height();
    }

    public int used() {
        return driver.countUsed();
    }

    public int use(int k) throws NoSuchElementException {
        if (k < 0 || k >= driver.countKept()) {
            throw new NoSuchElementException("no such production");
        }
        return driver.keptAt(k);
    }

    private boolean isState(int state) {
        return hasTable && state >= 0 && state < states.count();
    }

    /**
     * The symbols and productions. What may stand ahead (the terminals and END) has SEATS: those of
     * the terminals are their numbers, that of END comes next, so that a set of them is a few bits.
     */
    private static final class Grammar {
        private final int terminals;
        private final int nonterminals;
        private final int[] lefts;
        // Production p's right side is row[begins[p]] .. row[begins[p + 1] - 1].
        private final int[] begins;
        private final int[] row;
        private int productions;
        private final boolean[] empties;
        private final int[] firsts;

        Grammar(int terminals, int nonterminals) {
            this.terminals = terminals;
            this.nonterminals = nonterminals;
            lefts = new int[MOST_PRODUCTIONS];
            begins = new int[MOST_PRODUCTIONS + 1];
            row = new int[MOST_SYMBOLS];
            productions = 0;
            empties = new boolean[nonterminals];
            firsts = new int[nonterminals];
        }

        boolean isTerminal(int s) {
            return s >= 0 && s < terminals;
        }

        boolean isNonterminal(int s) {
            return s >= terminals && s < terminals + nonterminals;
        }

        boolean isSymbol(int s) {
            return s >= 0 && s < terminals + nonterminals;
        }

        int countSymbols() {
            return terminals + nonterminals;
        }

        int endSeat() {
            return terminals;
        }

        int seatOf(int a) {
            if (isTerminal(a)) {
                return a;
            }
            return a == terminals + nonterminals ? terminals : NONE;
        }

        int symbolAtSeat(int seat) {
            return seat < terminals ? seat : terminals + nonterminals;
        }

        boolean isEmpty() {
            return productions == 0;
        }

        int countProductions() {
            return productions;
        }

        boolean hasRoomForProduction() {
            return productions < MOST_PRODUCTIONS;
        }

        boolean hasRoomForSymbol() {
            return productions > 0 && begins[productions] < MOST_SYMBOLS;
        }

        int addProduction(int left) {
            lefts[productions] = left;
            begins[productions + 1] = begins[productions];
            productions++;
            return productions - 1;
        }

        void addSymbol(int s) {
            row[begins[productions]] = s;
            begins[productions]++;
        }

        void forgetAll() {
            productions = 0;
        }

        int leftOf(int p) {
            return lefts[p];
        }

        int lengthOf(int p) {
            return p == NONE ? 1 : begins[p + 1] - begins[p];
        }

        /** The symbol behind d done ones, for d below the length. */
        int symbolOf(int p, int d) {
            return p == NONE ? lefts[0] : row[begins[p] + d];
        }

        /** Finds anew what makesEmpty and firstsOf tell: a symbol more can make either set smaller. */
        void analyse() {
            Arrays.fill(firsts, 0);
            for (int i = 0; i < nonterminals; i++) {
                empties[i] = false;
            }
            boolean grew = true;
            for (int pass = 0; pass <= nonterminals && grew; pass++) {
                grew = growEmpties();
            }
            grew = true;
            for (int pass = 0; pass <= nonterminals * terminals && grew; pass++) {
                grew = growFirsts();
            }
        }

        private boolean growEmpties() {
            boolean grew = false;
            for (int p = 0; p < productions; p++) {
                int i = lefts[p] - terminals;
                if (!empties[i] && restMakesEmpty(p, 0)) {
                    empties[i] = true;
                    grew = true;
                }
            }
            return grew;
        }

        private boolean growFirsts() {
            boolean grew = false;
            for (int p = 0; p < productions; p++) {
                int i = lefts[p] - terminals;
                int more = firsts[i] | firstsOfRest(p, 0);
                if (more != firsts[i]) {
                    firsts[i] = more;
                    grew = true;
                }
            }
            return grew;
        }

        boolean makesEmpty(int s) {
            return isNonterminal(s) && empties[s - terminals];
        }

        int firstsOf(int s) {
            return isNonterminal(s) ? firsts[s - terminals] : 1 << s;
        }

        boolean restMakesEmpty(int p, int from) {
            int length = lengthOf(p);
            for (int d = from; d < length; d++) {
                if (!makesEmpty(symbolOf(p, d))) {
                    return false;
                }
            }
            return true;
        }

        int firstsOfRest(int p, int from) {
            int found = 0;
            int length = lengthOf(p);
            for (int d = from; d < length; d++) {
                int s = symbolOf(p, d);
                found |= firstsOf(s);
                if (!makesEmpty(s)) {
                    break;
                }
            }
            return found;
        }
    }

    /**
     * The places (p, d) of a grammar, in the order in which items are told. A set of items is a row
     * with the seats that stand ahead at each place.
     */
    private static final class Places {
        private final int[] productions;
        private final int[] dones;
        // The symbol behind what is done; NONE where all is done.
        private final int[] nexts;
        // Of the row behind that symbol.
        private final int[] restFirsts;
        private final boolean[] restEmpties;
        // Where the place (p, 0) is.
        private final int[] starts;
        private int size;

        Places() {
            productions = new int[MOST_PLACES];
            dones = new int[MOST_PLACES];
            nexts = new int[MOST_PLACES];
            restFirsts = new int[MOST_PLACES];
            restEmpties = new boolean[MOST_PLACES];
            starts = new int[MOST_PRODUCTIONS];
            size = 0;
        }

        void lay(Grammar grammar) {
            size = 0;
            layProduction(grammar, NONE);
            for (int p = 0; p < grammar.countProductions(); p++) {
                starts[p] = size;
                layProduction(grammar, p);
            }
        }

        private void layProduction(Grammar grammar, int p) {
            int length = grammar.lengthOf(p);
            for (int d = 0; d <= length; d++) {
                productions[size] = p;
                dones[size] = d;
                nexts[size] = d < length ? grammar.symbolOf(p, d) : NONE;
                restFirsts[size] = grammar.firstsOfRest(p, d + 1);
                restEmpties[size] = grammar.restMakesEmpty(p, d + 1);
                size++;
            }
        }

        int count() {
            return size;
        }

        int productionAt(int place) {
            return productions[place];
        }

        int doneAt(int place) {
            return dones[place];
        }

        int nextAt(int place) {
            return nexts[place];
        }

        int startOf(int p) {
            return starts[p];
        }

        /** What stands ahead in the items to which those at a place with these seats lead. */
        int leadsAhead(int place, int seats) {
            return restEmpties[place] ? restFirsts[place] | seats : restFirsts[place];
        }
    }

    /** The states as sets of items, and their gotos. */
    private static final class States {
        private final Grammar grammar;
        private final Places places;
        // One row more than there may be states: the next set is made there before it is known
        // whether it is a new one.
        private final int[][] sets;
        private final int[][] gotos;
        private int size;

        States(Grammar grammar) {
            this.grammar = grammar;
            places = new Places();
            sets = new int[MOST_STATES + 1][MOST_PLACES];
            gotos = new int[MOST_STATES][grammar.countSymbols()];
            size = 0;
        }

        /** Answers whether there are no more states than there may be. */
        boolean collect() {
            grammar.analyse();
            places.lay(grammar);
            Arrays.fill(sets[0], 0);
            sets[0][0] = 1 << grammar.endSeat();
            close(sets[0]);
            size = 1;
            for (int state = 0; state < MOST_STATES && state < size; state++) {
                if (!collectGotos(state)) {
                    return false;
                }
            }
            return true;
        }

        private boolean collectGotos(int state) {
            for (int s = 0; s < grammar.countSymbols(); s++) {
                gotos[state][s] = NONE;
                if (stepOver(sets[state], s, sets[size])) {
                    close(sets[size]);
                    int to = find(sets[size]);
                    gotos[state][s] = to;
                    if (to == size && size == MOST_STATES) {
                        return false;
                    }
                    size = Math.max(size, to + 1);
                }
            }
            return true;
        }

        /** Answers whether there are items with this symbol behind what is done. */
        private boolean stepOver(int[] from, int s, int[] to) {
            boolean any = false;
            Arrays.fill(to, 0);
            for (int place = 0; place < places.count() - 1; place++) {
                if (from[place] != 0 && places.nextAt(place) == s) {
                    to[place + 1] = from[place];
                    any = true;
                }
            }
            return any;
        }

        private void close(int[] set) {
            boolean grew = true;
            for (int pass = 0; pass <= MOST_ITEMS && grew; pass++) {
                grew = addLeads(set);
            }
        }

        private boolean addLeads(int[] set) {
            boolean grew = false;
            for (int place = 0; place < places.count(); place++) {
                int next = places.nextAt(place);
                if (set[place] != 0 && grammar.isNonterminal(next)
                        && addStarts(set, next, places.leadsAhead(place, set[place]))) {
                    grew = true;
                }
            }
            return grew;
        }

        private boolean addStarts(int[] set, int left, int seats) {
            boolean grew = false;
            for (int p = 0; p < grammar.countProductions(); p++) {
                int place = places.startOf(p);
                if (grammar.leftOf(p) == left && (set[place] | seats) != set[place]) {
                    set[place] |= seats;
                    grew = true;
                }
            }
            return grew;
        }

        /** The number of this set; the next number if it is a new one. */
        private int find(int[] set) {
            for (int state = 0; state < size; state++) {
                if (isSame(sets[state], set)) {
                    return state;
                }
            }
            return size;
        }

        private boolean isSame(int[] one, int[] other) {
            for (int place = 0; place < places.count(); place++) {
                if (one[place] != other[place]) {
                    return false;
                }
            }
            return true;
        }

        int count() {
            return size;
        }

        int gotoOf(int state, int s) {
            return gotos[state][s];
        }

        int countPlaces() {
            return places.count();
        }

        /** Whether there is an item in the state, at a place where all is done, with this seat. */
        boolean isDone(int state, int place, int seat) {
            return places.nextAt(place) == NONE && hasSeat(sets[state][place], seat);
        }

        int productionAt(int place) {
            return places.productionAt(place);
        }

        int countItems(int state) {
            int found = 0;
            for (int place = 0; place < places.count(); place++) {
                found += Integer.bitCount(sets[state][place]);
            }
            return found;
        }

        int partOfItem(int state, int k, int what) {
            int left = k;
            for (int place = 0; place < places.count(); place++) {
                int here = Integer.bitCount(sets[state][place]);
                if (left < here) {
                    return partAt(state, place, left, what);
                }
                left -= here;
            }
            return NONE;
        }

        private int partAt(int state, int place, int k, int what) {
            if (what == 0) {
                return places.productionAt(place);
            }
            if (what == 1) {
                return places.doneAt(place);
            }
            return grammar.symbolAtSeat(nthSeat(sets[state][place], k));
        }

        private static int nthSeat(int seats, int k) {
            int left = k;
            for (int seat = 0; seat <= MOST_TERMINALS; seat++) {
                if (hasSeat(seats, seat)) {
                    if (left == 0) {
                        return seat;
                    }
                    left--;
                }
            }
            return NONE;
        }

        private static boolean hasSeat(int seats, int seat) {
            return (seats >> seat & 1) != 0;
        }
    }

    /** What each state does with each seat, and the first conflict that was found. */
    private static final class Actions {
        private final Grammar grammar;
        private final States states;
        private final int[][] rows;
        private int conflictState;
        private int conflictSymbol;

        Actions(Grammar grammar, States states) {
            this.grammar = grammar;
            this.states = states;
            rows = new int[MOST_STATES][grammar.endSeat() + 1];
            conflictState = NONE;
            conflictSymbol = NONE;
        }

        void forgetConflict() {
            conflictState = NONE;
            conflictSymbol = NONE;
        }

        int conflictState() {
            return conflictState;
        }

        int conflictSymbol() {
            return conflictSymbol;
        }

        int at(int state, int seat) {
            return rows[state][seat];
        }

        /** Answers whether there is no conflict. */
        boolean decide() {
            for (int state = 0; state < states.count(); state++) {
                for (int seat = 0; seat <= grammar.endSeat(); seat++) {
                    if (!decideOne(state, seat)) {
                        conflictState = state;
                        conflictSymbol = grammar.symbolAtSeat(seat);
                        return false;
                    }
                }
            }
            return true;
        }

        private boolean decideOne(int state, int seat) {
            int chosen = shiftOf(state, seat);
            for (int place = 0; place < states.countPlaces(); place++) {
                if (states.isDone(state, place, seat)) {
                    if (chosen != NO_ACTION) {
                        return false;
                    }
                    chosen = endingOf(states.productionAt(place));
                }
            }
            rows[state][seat] = chosen;
            return true;
        }

        private int shiftOf(int state, int seat) {
            if (seat == grammar.endSeat()) {
                return NO_ACTION;
            }
            int to = states.gotoOf(state, seat);
            return to == NONE ? NO_ACTION : to + 1;
        }

        private static int endingOf(int p) {
            return p == NONE ? ACCEPT : -1 - p;
        }
    }

    /** Reads a row of tokens by the table. */
    private static final class Driver {
        // What comes to an end stays below this: a token finds fewer than 60 states and, like END
        // after it, can't put one state twice upon those that it leaves and still come to an end.
        private static final int MOST_STACKED = 200;
        // Far above the two million reductions or so that one END can ask for, when each of the
        // productions that stand open on a full stack ends in nonterminals that make nested empty
        // rows.
        private static final int MOST_STEPS = 100000000;
        // Far above what 512 calls can use. The count stops there, so that however long an object
        // is used it never wraps round to a number below 0.
        private static final int MOST_COUNTED = 2000000000;

        private final Grammar grammar;
        private final States states;
        private final Actions actions;
        private final int[] stack;
        // The nonterminals, as bits, that were put upon each place of the stack in this call.
        private final int[] putUpon;
        private final int[] kept;
        private int height;
        private int phase;
        private int reductions;

        Driver(Grammar grammar, States states, Actions actions) {
            this.grammar = grammar;
            this.states = states;
            this.actions = actions;
            stack = new int[MOST_STACKED];
            putUpon = new int[MOST_STACKED];
            kept = new int[MOST_KEPT];
            height = 0;
            phase = NO_ROW;
            reductions = 0;
        }

        void leaveRow() {
            height = 0;
            phase = NO_ROW;
            reductions = 0;
        }

        void beginRow() {
            stack[0] = 0;
            height = 1;
            phase = BEGUN;
            reductions = 0;
        }

        int phase() {
            return phase;
        }

        int height() {
            return height;
        }

        int countUsed() {
            return reductions;
        }

        int countKept() {
            return Math.min(reductions, MOST_KEPT);
        }

        int keptAt(int k) {
            return kept[k];
        }

        /** Answers whether a token is taken, or, for END, the row is accepted. */
        boolean read(int seat) {
            Arrays.fill(putUpon, 0);
            for (int step = 0; step < MOST_STEPS && height > 0; step++) {
                int action = actions.at(stack[height - 1], seat);
                if (action >= NO_ACTION) {
                    return settle(action);
                }
                if (!reduce(-1 - action)) {
                    return refuse();
                }
            }
            return refuse();
        }

        private boolean settle(int action) {
            if (action == NO_ACTION || height >= MOST_STACKED) {
                return refuse();
            }
            if (action == ACCEPT) {
                phase = ACCEPTED;
            } else {
                put(action - 1);
            }
            return true;
        }

        private boolean refuse() {
            phase = REFUSED;
            return false;
        }

        /**
         * Answers whether it could be done. Without a conflict a grammar can still ask for
         * reductions without end, if it has nonterminals that make no row of terminals: then the
         * same nonterminal comes again upon the same place of the stack, or the stack grows beyond
         * its bound.
         */
        private boolean reduce(int p) {
            int left = grammar.leftOf(p);
            int bit = 1 << left;
            int rest = height - grammar.lengthOf(p);
            if (rest < 1 || rest >= MOST_STACKED || (putUpon[rest - 1] & bit) != 0) {
                return false;
            }
            int to = states.gotoOf(stack[rest - 1], left);
            if (to == NONE) {
                return false;
            }
            putUpon[rest - 1] |= bit;
            height = rest;
            put(to);
            keepUsed(p);
            return true;
        }

        private void put(int state) {
            stack[height] = state;
            putUpon[height] = 0;
            height++;
        }

        private void keepUsed(int p) {
            if (reductions < MOST_KEPT) {
                kept[reductions] = p;
            }
            if (reductions < MOST_COUNTED) {
                reductions++;
            }
        }
    }
}
