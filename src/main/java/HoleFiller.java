import java.util.Arrays;

/**
 * A desk for terms with binders and holes: two terms are made the same by filling holes, in the one
 * way that leaves most open.
 */
public final class HoleFiller {
    public static final int NONE = -1;

    private static final int VARIABLE = 0;
    private static final int OPERATION = 1;
    private static final int HOLE = 2;

    private static final int NO_FAULT = 0;
    private static final int CLASH = 1;
    private static final int ESCAPES = 2;
    private static final int WITHIN_ITSELF = 3;
    private static final int TOO_LARGE = 4;
    private static final int TOO_MANY_HOLES = 5;

    private static final int MOST_OPERATIONS = 16;
    private static final int MOST_ARGUMENTS = 3;
    private static final int MOST_BOUND = 2;
    private static final int MOST_TOLD = 24;
    private static final int MOST_HOLES = 300;
    private static final int MOST_PARAMETERS = 4;
    private static final int MOST_DEPTH = 6;
    private static final int MOST_VARIABLES = 12;
    private static final int MOST_SLOTS = 8;
    private static final int MOST_TERM_SIZE = 30;
    private static final int MOST_FILLED_SIZE = 80;

    /** Told holes may still come when there are 300 in all, so both kinds have rows of their own. */
    private static final int HOLE_ROWS = MOST_TOLD + MOST_HOLES;
    /** An item is at most a hole with all its variables. */
    private static final int ITEM_CELLS = 1 + MOST_PARAMETERS;
    private static final int SLOT_CELLS = MOST_TERM_SIZE * ITEM_CELLS;
    private static final int FILLINGS_FROM = MOST_SLOTS * SLOT_CELLS;
    private static final int FIRST_CELLS = 2048;
    private static final int MOST_CELLS = FILLINGS_FROM + HOLE_ROWS * MOST_FILLED_SIZE * ITEM_CELLS;
    private static final int FIRST_READ_CELLS = 128;
    private static final int MOST_READ_CELLS = SLOT_CELLS * MOST_FILLED_SIZE;
    /** An operation takes one item that is due away and brings three. */
    private static final int MOST_DUE = 1 + MOST_TERM_SIZE * MOST_ARGUMENTS;
    /**
     * A row that waits while a filling is gone through has an operation and an item beside that
     * filling, so it is larger by two: with 80 as the largest size some forty rows wait at most.
     */
    private static final int MOST_ROWS_OPEN = 64;
    /** Far above the items of any two terms with all fillings. */
    private static final int MOST_STEPS = 1000000;

    private final Operations operations;
    private final Holes holes;
    private final Slot[] slots;
    private final Cursor left;
    private final Cursor right;
    private final Unifier unifier;
    private final Reader reader;
    private int unifiedWithout;
    private int unifiedWith;

    public HoleFiller() {
        Cells cells = new Cells();
        operations = new Operations();
        holes = new Holes(cells);
        slots = new Slot[MOST_SLOTS];
        for (int s = 0; s < slots.length; s++) {
            slots[s] = new Slot(cells, s * SLOT_CELLS);
        }
        left = new Cursor(cells, holes);
        right = new Cursor(cells, holes);
        unifier = new Unifier(cells, holes, operations, left, right);
        reader = new Reader();
    }

    public int operation(int first, int second, int third) throws IllegalArgumentException {
        if (!mayBind(first) || !mayBind(second) || !mayBind(third)) {
            throw new IllegalArgumentException("an argument binds 0 to 2 variables");
        }
        if (first == NONE && second != NONE || second == NONE && third != NONE) {
            throw new IllegalArgumentException("an argument behind one that is not there");
        }
        return operations.tell(first, second, third);
    }

    public int hole(int n) throws IllegalArgumentException {
        if (n < 0 || n > MOST_PARAMETERS) {
            throw new IllegalArgumentException("a hole has 0 to 4 parameters");
        }
        return holes.tell(n);
    }

    public int begin(int slot, int depth) throws IllegalArgumentException {
        Slot term = slotAt(slot);
        if (depth < 0 || depth > MOST_DEPTH) {
            throw new IllegalArgumentException("a depth is 0 to 6");
        }
        term.restart(depth);
        return term.itemsDue();
    }

    public int put(int slot, int sort, int x) throws IllegalStateException, IllegalArgumentException {
        Slot term = slotAt(slot);
        if (term.itemsDue() == 0) {
            throw new IllegalStateException("no item is due");
        }
        if (!mayStand(term, sort, x)) {
            throw new IllegalArgumentException("this item can't stand there");
        }
        if (!hasRoom(term, sort, x)) {
            return NONE;
        }
        if (sort == VARIABLE) {
            term.takeVariable(x);
        } else if (sort == OPERATION) {
            term.takeOperation(x, operations);
        } else {
            term.takeHole(x, holes.parametersOf(x));
        }
        return term.itemsDue();
    }

    public int unify(int a, int b) throws IllegalArgumentException, IllegalStateException {
        startBoth(a, b);
        int filledBefore = holes.filled;
        int madeBefore = holes.made;
        int fault = unifier.solve();
        if (fault == NO_FAULT) {
            unifiedWithout++;
        } else {
            holes.undoTo(filledBefore, madeBefore);
            unifiedWith++;
        }
        return fault;
    }

    public int read(int slot) throws IllegalArgumentException, IllegalStateException {
        startBoth(slot, slot);
        reader.takeAll(left);
        return reader.length;
    }

    public int item(int i) throws IndexOutOfBoundsException {
        if (i < 0 || i >= reader.length) {
            throw new IndexOutOfBoundsException("no such item was read");
        }
        return at(reader.items, i);
    }

    public boolean isSame(int a, int b) throws IllegalArgumentException, IllegalStateException {
        startBoth(a, b);
        for (int step = 0; step < MOST_STEPS; step++) {
            boolean more = left.advance();
            if (more != right.advance()) {
                return false;
            }
            if (!more) {
                return true;
            }
            if (!left.standsAs(right)) {
                return false;
            }
        }
        return false;
    }

    public int size(int h) throws IllegalArgumentException {
        refuseUntold(h);
        holes.measureAll();
        return at(holes.sizes, h);
    }

    public int uses(int h) throws IllegalArgumentException {
        refuseUntold(h);
        if (holes.isOpen(h)) {
            return (1 << holes.parametersOf(h)) - 1;
        }
        left.startAt(at(holes.from, h), at(holes.to, h));
        int bits = 0;
        for (int step = 0; step < MOST_STEPS && left.advance(); step++) {
            bits |= left.freeBits();
        }
        return bits;
    }

    public int empty() {
        int had = 0;
        for (int h = 0; h < holes.told; h++) {
            if (!holes.isOpen(h)) {
                had++;
            }
        }
        holes.undoTo(0, 0);
        return had;
    }

    public int count(int what) {
        switch (what) {
            case 0: return operations.told;
            case 1: return holes.told;
            case 2: return holes.made;
            case 3: return holes.filled;
            case 4: return reader.length;
            case 5: return reader.openHoles;
            case 6: return unifiedWithout;
            case 7: return unifiedWith;
            default: return NONE;
        }
    }

    private static boolean mayBind(int variables) {
        return variables >= NONE && variables <= MOST_BOUND;
    }

    private Slot slotAt(int slot) {
        Slot found = slot >= 0 && slot < slots.length ? slots[slot] : null;
        if (found == null) {
            throw new IllegalArgumentException("no such slot");
        }
        return found;
    }

    private boolean mayStand(Slot term, int sort, int x) {
        switch (sort) {
            case VARIABLE: return term.mayTakeVariable(x);
            case OPERATION: return !term.isBehindHole() && x >= 0 && x < operations.told;
            case HOLE: return !term.isBehindHole() && x >= 0 && x < holes.told;
            default: return false;
        }
    }

    private boolean hasRoom(Slot term, int sort, int x) {
        if (term.isBehindHole()) {
            return true;
        }
        if (term.ownSize >= MOST_TERM_SIZE) {
            return false;
        }
        return sort != OPERATION
            || term.variablesHere() + operations.mostBound(x) <= MOST_VARIABLES;
    }

    private void startBoth(int a, int b) {
        Slot first = slotAt(a);
        Slot second = slotAt(b);
        if (!first.isWhole() || !second.isWhole()) {
            throw new IllegalStateException("a term is not whole");
        }
        if (first.depth != second.depth) {
            throw new IllegalStateException("the terms have other depths");
        }
        left.startAt(first.from, first.from + first.length);
        right.startAt(second.from, second.from + second.length);
    }

    private void refuseUntold(int h) {
        if (h < 0 || h >= holes.told) {
            throw new IllegalArgumentException("no such hole was told");
        }
    }

    private static int at(int[] row, int i) {
        return i >= 0 && i < row.length ? row[i] : 0;
    }

    private static void set(int[] row, int i, int value) {
        if (i >= 0 && i < row.length) {
            row[i] = value;
        }
    }

    private static int codeOf(int sort, int number) {
        return 4 * number + sort;
    }

    private static int sortOf(int code) {
        return code & 3;
    }

    private static int numberOf(int code) {
        return code >> 2;
    }

    /** The operations that were told, with what their arguments bind. */
    private static final class Operations {
        private final int[] arity = new int[MOST_OPERATIONS];
        private final int[] binds = new int[MOST_OPERATIONS * MOST_ARGUMENTS];
        private int told;

        int tell(int first, int second, int third) {
            if (told >= MOST_OPERATIONS) {
                return NONE;
            }
            int f = told;
            told++;
            addArgument(f, first);
            addArgument(f, second);
            addArgument(f, third);
            return f;
        }

        private void addArgument(int f, int bound) {
            if (bound == NONE) {
                return;
            }
            int i = arityOf(f);
            set(binds, f * MOST_ARGUMENTS + i, bound);
            set(arity, f, i + 1);
        }

        int arityOf(int f) {
            return at(arity, f);
        }

        int boundBy(int f, int argument) {
            return at(binds, f * MOST_ARGUMENTS + argument);
        }

        int mostBound(int f) {
            int most = 0;
            for (int i = 0; i < arityOf(f); i++) {
                most = Math.max(most, boundBy(f, i));
            }
            return most;
        }
    }

    /**
     * The items of all slots' terms, and behind them those of all fillings: each with how many
     * variables are bound above it within its own term or filling.
     */
    private static final class Cells {
        private int[] codes = new int[FIRST_CELLS];
        private int[] bounds = new int[FIRST_CELLS];
        private int top = FILLINGS_FROM;

        int codeAt(int i) {
            return at(codes, i);
        }

        int boundAt(int i) {
            return at(bounds, i);
        }

        void write(int i, int code, int bound) {
            set(codes, i, code);
            set(bounds, i, bound);
        }

        void append(int code, int bound) {
            if (top >= codes.length && codes.length < MOST_CELLS) {
                codes = Arrays.copyOf(codes, 2 * codes.length);
                bounds = Arrays.copyOf(bounds, 2 * bounds.length);
            }
            if (top >= 0 && top < codes.length && top < bounds.length) {
                codes[top] = code;
                bounds[top] = bound;
            }
            top++;
        }
    }

    /** All holes: those that were told come first, the new ones from MOST_TOLD on. */
    private static final class Holes {
        private final Cells cells;
        private final int[] parameters = new int[HOLE_ROWS];
        /** Where a hole's filling lies in the cells; from is 0 when it is open. */
        private final int[] from = new int[HOLE_ROWS];
        private final int[] to = new int[HOLE_ROWS];
        private final int[] sizes = new int[HOLE_ROWS];
        /** The filled holes, the earliest first: a filling has only holes that were open then. */
        private final int[] order = new int[HOLE_ROWS];
        private int told;
        private int made;
        private int filled;

        Holes(Cells cells) {
            this.cells = cells;
        }

        int tell(int n) {
            if (told >= MOST_TOLD) {
                return NONE;
            }
            set(parameters, told, n);
            told++;
            return told - 1;
        }

        int makeNew(int n) {
            if (told + made >= MOST_HOLES) {
                return NONE;
            }
            int h = MOST_TOLD + made;
            set(parameters, h, n);
            made++;
            return h;
        }

        boolean isOpen(int h) {
            return at(from, h) == 0;
        }

        int parametersOf(int h) {
            return at(parameters, h);
        }

        /** The new hole's parameter i stands for h's parameter kept[i]; false without a new hole. */
        boolean fillWithHole(int h, int newHole, int[] kept) {
            if (newHole == NONE) {
                return false;
            }
            int start = cells.top;
            cells.append(codeOf(HOLE, newHole), 0);
            int n = parametersOf(newHole);
            for (int i = 0; i < n; i++) {
                cells.append(codeOf(VARIABLE, at(kept, i)), 0);
            }
            fillFrom(h, start);
            return true;
        }

        /** The cells that were appended since start are the filling. */
        void fillFrom(int h, int start) {
            set(from, h, start);
            set(to, h, cells.top);
            set(order, filled, h);
            filled++;
        }

        void undoTo(int filledBefore, int madeBefore) {
            for (int i = filled - 1; i >= filledBefore; i--) {
                int h = at(order, i);
                cells.top = at(from, h);
                set(from, h, 0);
            }
            filled = filledBefore;
            made = madeBefore;
        }

        /** The largest size. The latest filling comes first, for it has no filled hole. */
        int measureAll() {
            Arrays.fill(sizes, 1);
            int largest = 1;
            for (int i = filled - 1; i >= 0; i--) {
                int h = at(order, i);
                int sum = sumFrom(at(from, h), at(to, h));
                set(sizes, h, sum);
                largest = Math.max(largest, sum);
            }
            return largest;
        }

        private int sumFrom(int start, int end) {
            int sum = 0;
            for (int i = start; i < end; i++) {
                int code = cells.codeAt(i);
                if (sortOf(code) == HOLE) {
                    int h = numberOf(code);
                    sum += at(sizes, h);
                    i += parametersOf(h);
                } else {
                    sum++;
                }
            }
            return sum;
        }
    }

    /** The term of a slot, as far as it was put. */
    private static final class Slot {
        private final Cells cells;
        private final int from;
        /** How many variables are bound above each item that is due, the next one last. */
        private final int[] due = new int[MOST_DUE];
        private int dueCount;
        private int depth;
        private int length;
        private int ownSize;
        private int holeVariablesDue;
        private int holeVariablesFrom;
        private int holeBound;

        Slot(Cells cells, int from) {
            this.cells = cells;
            this.from = from;
        }

        void restart(int newDepth) {
            depth = newDepth;
            length = 0;
            ownSize = 0;
            holeVariablesDue = 0;
            set(due, 0, 0);
            dueCount = 1;
        }

        int itemsDue() {
            return dueCount + holeVariablesDue;
        }

        boolean isWhole() {
            return length > 0 && itemsDue() == 0;
        }

        boolean isBehindHole() {
            return holeVariablesDue > 0;
        }

        int variablesHere() {
            return depth + boundHere();
        }

        private int boundHere() {
            return isBehindHole() ? holeBound : at(due, dueCount - 1);
        }

        boolean mayTakeVariable(int x) {
            if (x < 0 || x >= variablesHere()) {
                return false;
            }
            if (!isBehindHole()) {
                return true;
            }
            for (int i = holeVariablesFrom; i < length; i++) {
                if (numberOf(cells.codeAt(from + i)) == x) {
                    return false;
                }
            }
            return true;
        }

        void takeVariable(int x) {
            int bound = boundHere();
            if (isBehindHole()) {
                holeVariablesDue--;
            } else {
                dueCount--;
                ownSize++;
            }
            write(codeOf(VARIABLE, x), bound);
        }

        void takeOperation(int f, Operations operations) {
            int bound = boundHere();
            dueCount--;
            ownSize++;
            write(codeOf(OPERATION, f), bound);
            for (int i = operations.arityOf(f) - 1; i >= 0; i--) {
                set(due, dueCount, bound + operations.boundBy(f, i));
                dueCount++;
            }
        }

        void takeHole(int h, int parameters) {
            int bound = boundHere();
            dueCount--;
            ownSize++;
            write(codeOf(HOLE, h), bound);
            holeVariablesDue = parameters;
            holeVariablesFrom = length;
            holeBound = bound;
        }

        private void write(int code, int bound) {
            cells.write(from + length, code, bound);
            length++;
        }
    }

    /**
     * Goes through a term from the left to the right, with all fillings: rows of cells that are
     * not yet at their end wait below the one that it is in.
     */
    private static final class Cursor {
        private final Cells cells;
        private final Holes holes;
        private final int[] next = new int[MOST_ROWS_OPEN];
        private final int[] end = new int[MOST_ROWS_OPEN];
        /** How many variables of the whole term are bound above a row. */
        private final int[] boundAbove = new int[MOST_ROWS_OPEN];
        /** What stands for the parameters of a filling's row, as variables where it begins. */
        private final int[] images = new int[MOST_ROWS_OPEN * MOST_PARAMETERS];
        private int top;
        private int sort;
        private int number;
        private int bound;
        private final int[] variables = new int[MOST_PARAMETERS];
        private int variableCount;

        Cursor(Cells cells, Holes holes) {
            this.cells = cells;
            this.holes = holes;
        }

        void startAt(int start, int stop) {
            top = 0;
            set(next, 0, start);
            set(end, 0, stop);
            set(boundAbove, 0, 0);
        }

        void copyFrom(Cursor other) {
            top = other.top;
            for (int row = 0; row <= top; row++) {
                set(next, row, at(other.next, row));
                set(end, row, at(other.end, row));
                set(boundAbove, row, at(other.boundAbove, row));
            }
            for (int i = 0; i < (top + 1) * MOST_PARAMETERS; i++) {
                set(images, i, at(other.images, i));
            }
            sort = other.sort;
            number = other.number;
            bound = other.bound;
            variableCount = other.variableCount;
            for (int i = 0; i < variableCount; i++) {
                set(variables, i, at(other.variables, i));
            }
        }

        /** Goes to the next item that no filling stands for; false when the term is over. */
        boolean advance() {
            for (int step = 0; step < MOST_STEPS; step++) {
                leaveEnded();
                int place = at(next, top);
                if (place >= at(end, top)) {
                    return false;
                }
                int boundInRow = cells.boundAt(place);
                sort = sortOf(cells.codeAt(place));
                number = numberOf(cells.codeAt(place));
                bound = at(boundAbove, top) + boundInRow;
                variableCount = sort == HOLE ? holes.parametersOf(number) : 0;
                set(next, top, place + 1 + variableCount);
                if (sort == VARIABLE) {
                    number = outside(number, boundInRow);
                }
                for (int i = 0; i < variableCount; i++) {
                    int variable = numberOf(cells.codeAt(place + 1 + i));
                    set(variables, i, outside(variable, boundInRow));
                }
                if (sort != HOLE || holes.isOpen(number)) {
                    return true;
                }
                if (!enterFilling()) {
                    return false;
                }
            }
            return false;
        }

        private void leaveEnded() {
            while (top > 0 && at(next, top) >= at(end, top)) {
                top--;
            }
        }

        /** Rows at their end are left first, so that chains of holes don't pile up. */
        private boolean enterFilling() {
            leaveEnded();
            if (top + 1 >= MOST_ROWS_OPEN) {
                return false;
            }
            top++;
            set(next, top, at(holes.from, number));
            set(end, top, at(holes.to, number));
            set(boundAbove, top, bound);
            for (int i = 0; i < variableCount; i++) {
                set(images, top * MOST_PARAMETERS + i, at(variables, i));
            }
            return true;
        }

        /** A row's variable as one of the whole term at the same place. */
        private int outside(int variable, int boundInRow) {
            if (top == 0 || variable < boundInRow) {
                return variable;
            }
            int parameter = variable - boundInRow;
            return at(images, top * MOST_PARAMETERS + parameter) + boundInRow;
        }

        /** Which parameter of the hole here stands for a variable, or NONE. */
        int parameterFor(int variable) {
            for (int i = 0; i < variableCount; i++) {
                if (at(variables, i) == variable) {
                    return i;
                }
            }
            return NONE;
        }

        boolean standsAs(Cursor other) {
            if (sort != other.sort || number != other.number) {
                return false;
            }
            for (int i = 0; i < variableCount; i++) {
                if (at(variables, i) != at(other.variables, i)) {
                    return false;
                }
            }
            return true;
        }

        /** Bit k for free variable k, if it is here or among the hole's variables here. */
        int freeBits() {
            int bits = sort == VARIABLE ? bitOf(number) : 0;
            for (int i = 0; i < variableCount; i++) {
                bits |= bitOf(at(variables, i));
            }
            return bits;
        }

        private int bitOf(int variable) {
            return variable < bound ? 0 : 1 << (variable - bound);
        }
    }

    /**
     * Goes through both terms at once. An operation's arguments come ahead of all other equations,
     * so the row of equations is just what lies ahead of the two cursors.
     */
    private static final class Unifier {
        private final Cells cells;
        private final Holes holes;
        private final Operations operations;
        private final Cursor left;
        private final Cursor right;
        private final Cursor scout;
        private final int[] kept = new int[MOST_PARAMETERS];
        private final int[] keptRight = new int[MOST_PARAMETERS];
        private int termSize;

        Unifier(Cells cells, Holes holes, Operations operations, Cursor left, Cursor right) {
            this.cells = cells;
            this.holes = holes;
            this.operations = operations;
            this.left = left;
            this.right = right;
            this.scout = new Cursor(cells, holes);
        }

        int solve() {
            for (int step = 0; step < MOST_STEPS; step++) {
                if (!left.advance() || !right.advance()) {
                    return NO_FAULT;
                }
                int fault;
                if (left.sort == HOLE && right.sort == HOLE) {
                    fault = left.number == right.number ? narrowToSame() : joinHoles();
                } else if (left.sort == HOLE) {
                    fault = fillWithTerm(left, right);
                } else if (right.sort == HOLE) {
                    fault = fillWithTerm(right, left);
                } else {
                    fault = left.standsAs(right) ? NO_FAULT : CLASH;
                }
                if (fault != NO_FAULT) {
                    return fault;
                }
            }
            return NO_FAULT;
        }

        private int narrowToSame() {
            int n = 0;
            for (int i = 0; i < left.variableCount; i++) {
                if (at(left.variables, i) == at(right.variables, i)) {
                    set(kept, n, i);
                    n++;
                }
            }
            if (n == left.variableCount) {
                return NO_FAULT;
            }
            boolean done = holes.fillWithHole(left.number, holes.makeNew(n), kept);
            return done ? NO_FAULT : TOO_MANY_HOLES;
        }

        private int joinHoles() {
            int n = 0;
            for (int i = 0; i < left.variableCount; i++) {
                int onRight = right.parameterFor(at(left.variables, i));
                if (onRight != NONE) {
                    set(kept, n, i);
                    set(keptRight, n, onRight);
                    n++;
                }
            }
            int newHole = holes.makeNew(n);
            boolean done = holes.fillWithHole(left.number, newHole, kept)
                && holes.fillWithHole(right.number, newHole, keptRight);
            return done ? NO_FAULT : TOO_MANY_HOLES;
        }

        /** The scout sees the term first, so that copying takes it with all that was narrowed. */
        private int fillWithTerm(Cursor hole, Cursor term) {
            scout.copyFrom(term);
            int fault = admitTerm(hole);
            if (fault != NO_FAULT) {
                return fault;
            }
            if (termSize > MOST_FILLED_SIZE) {
                return TOO_LARGE;
            }
            int start = cells.top;
            copyTerm(hole, term);
            holes.fillFrom(hole.number, start);
            return holes.measureAll() > MOST_FILLED_SIZE ? TOO_LARGE : NO_FAULT;
        }

        private int admitTerm(Cursor hole) {
            termSize = 0;
            int due = 1;
            for (int step = 0; step < MOST_STEPS; step++) {
                termSize++;
                int fault = NO_FAULT;
                if (scout.sort == VARIABLE) {
                    fault = isForeign(hole, scout.number) ? ESCAPES : NO_FAULT;
                } else if (scout.sort == HOLE) {
                    fault = scout.number == hole.number ? WITHIN_ITSELF : dropForeign(hole);
                }
                due = dueAfter(scout, due);
                if (fault != NO_FAULT || due == 0 || !scout.advance()) {
                    return fault;
                }
            }
            return NO_FAULT;
        }

        private int dueAfter(Cursor cursor, int due) {
            int arguments = cursor.sort == OPERATION ? operations.arityOf(cursor.number) : 0;
            return due - 1 + arguments;
        }

        /** Whether a variable where the scout is is free in the term and none of the hole's. */
        private boolean isForeign(Cursor hole, int variable) {
            int free = variable - (scout.bound - hole.bound);
            return free >= 0 && hole.parameterFor(free) == NONE;
        }

        private int dropForeign(Cursor hole) {
            int n = 0;
            for (int i = 0; i < scout.variableCount; i++) {
                if (!isForeign(hole, at(scout.variables, i))) {
                    set(kept, n, i);
                    n++;
                }
            }
            if (n == scout.variableCount) {
                return NO_FAULT;
            }
            boolean done = holes.fillWithHole(scout.number, holes.makeNew(n), kept);
            return done ? NO_FAULT : TOO_MANY_HOLES;
        }

        private void copyTerm(Cursor hole, Cursor term) {
            int due = 1;
            for (int step = 0; step < MOST_STEPS; step++) {
                copyHere(hole, term);
                due = dueAfter(term, due);
                if (due == 0 || !term.advance()) {
                    return;
                }
            }
        }

        private void copyHere(Cursor hole, Cursor term) {
            int bound = term.bound - hole.bound;
            int number = term.sort == VARIABLE ? inside(hole, term.number, bound) : term.number;
            cells.append(codeOf(term.sort, number), bound);
            for (int i = 0; i < term.variableCount; i++) {
                int variable = inside(hole, at(term.variables, i), bound);
                cells.append(codeOf(VARIABLE, variable), bound);
            }
        }

        /** A variable of the term as one of the filling: the hole's parameters are its free ones. */
        private int inside(Cursor hole, int variable, int bound) {
            return variable < bound ? variable : hole.parameterFor(variable - bound) + bound;
        }
    }

    /** The items of the term that was read latest. */
    private static final class Reader {
        private int[] items = new int[FIRST_READ_CELLS];
        private int length;
        private int openHoles;
        /** One more than the number that an open hole has in what is read, 0 before it comes up. */
        private final int[] names = new int[HOLE_ROWS];
        /** The parameters of each such hole in the order in which they are told, two bits each. */
        private final int[] orders = new int[HOLE_ROWS];

        void takeAll(Cursor cursor) {
            length = 0;
            openHoles = 0;
            Arrays.fill(names, 0);
            for (int step = 0; step < MOST_STEPS && cursor.advance(); step++) {
                if (cursor.sort == HOLE) {
                    takeHole(cursor);
                } else {
                    append(codeOf(cursor.sort, cursor.number));
                }
            }
        }

        private void takeHole(Cursor cursor) {
            int h = cursor.number;
            if (at(names, h) == 0) {
                openHoles++;
                set(names, h, openHoles);
                set(orders, h, risingOrder(cursor));
            }
            append(codeOf(HOLE, at(names, h) - 1));
            int order = at(orders, h);
            for (int i = 0; i < cursor.variableCount; i++) {
                int parameter = order >> (2 * i) & 3;
                append(codeOf(VARIABLE, at(cursor.variables, parameter)));
            }
        }

        /** The variables differ, so a parameter's place is the number of smaller ones. */
        private static int risingOrder(Cursor cursor) {
            int order = 0;
            for (int i = 0; i < cursor.variableCount; i++) {
                int smaller = 0;
                for (int k = 0; k < cursor.variableCount; k++) {
                    if (at(cursor.variables, k) < at(cursor.variables, i)) {
                        smaller++;
                    }
                }
                order |= i << (2 * smaller);
            }
            return order;
        }

        private void append(int code) {
            if (length >= items.length && items.length < MOST_READ_CELLS) {
                items = Arrays.copyOf(items, 2 * items.length);
            }
            set(items, length, code);
            length++;
        }
    }
}
