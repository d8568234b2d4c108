/** A sheet of cells whose formulas may refer to cells by number, directly or through a value. */
public final class IndirectSheet {
    public static final int NUMBER = 0;
    public static final int DIV_ERROR = 1;
    public static final int REF_ERROR = 2;
    public static final int CIRCULAR = 3;
    public static final int NONE = -1;

    private static final int CELLS = 16;
    private static final int GREATEST_SHIFT = 15;

    private static final int ADD = 0;
    private static final int SUB = 1;
    private static final int MUL = 2;
    private static final int DIV = 3;
    private static final int THROUGH = 4;
    private static final int SUM = 5;
    private static final int ISERR = 6;
    private static final int WHEN = 7;
    private static final int LOST = 8;

    // A constant is held as the operation NONE with the constant as its first number,
    // so that putting and copying treat constants and formulas alike.
    private final int[] operations = new int[CELLS];
    private final int[] firsts = new int[CELLS];
    private final int[] seconds = new int[CELLS];

    // The value of a cell that is no NUMBER is kept at 0, so that two of one state never differ in it.
    private final int[] states = new int[CELLS];
    private final int[] values = new int[CELLS];
    private final int[] statesBefore = new int[CELLS];
    private final int[] valuesBefore = new int[CELLS];

    private int changedCells = 0;

    public IndirectSheet() {
        for (int cell = 0; cell < CELLS; cell++) {
            operations[cell] = NONE;
        }
    }

    public boolean put(int cell, int v) {
        if (!isCell(cell)) {
            return false;
        }
        hold(cell, NONE, v, 0);
        return true;
    }

    public boolean formula(int cell, int op, int a, int b) {
        if (!isCell(cell) || op < ADD || op > LOST) {
            return false;
        }
        if (namesFirst(op) && !isCell(a)) {
            return false;
        }
        if (namesSecond(op) && !isCell(b)) {
            return false;
        }
        if (op == THROUGH && (b < -GREATEST_SHIFT || b > GREATEST_SHIFT)) {
            return false;
        }
        int first = namesFirst(op) ? a : 0;
        int second = namesSecond(op) || op == THROUGH ? b : 0;
        hold(cell, op, first, second);
        return true;
    }

    public boolean copy(int from, int to) {
        if (!isCell(from) || !isCell(to)) {
            return false;
        }
        int op = operations[from];
        int first = firsts[from];
        int second = seconds[from];
        boolean lost = false;
        if (namesFirst(op)) {
            first += to - from;
            lost = !isCell(first);
        }
        if (namesSecond(op)) {
            second += to - from;
            lost = lost || !isCell(second);
        }
        if (lost) {
            hold(to, LOST, 0, 0);
        } else {
            hold(to, op, first, second);
        }
        return true;
    }

    public int operation(int cell) {
        return isCell(cell) ? operations[cell] : NONE;
    }

    public int operand(int cell, int which) {
        if (!isCell(cell) || operations[cell] == NONE) {
            return NONE;
        }
        if (which == 0) {
            return firsts[cell];
        }
        return which == 1 ? seconds[cell] : NONE;
    }

    public int state(int cell) {
        return isCell(cell) ? states[cell] : NONE;
    }

    public int value(int cell) {
        return isCell(cell) ? values[cell] : 0;
    }

    public int circular() {
        int cells = 0;
        for (int cell = 0; cell < CELLS; cell++) {
            if (states[cell] == CIRCULAR) {
                cells |= 1 << cell;
            }
        }
        return cells;
    }

    public int needs(int cell) {
        return isCell(cell) ? neededCells(cell) : 0;
    }

    public int reached(int cell) {
        if (!isCell(cell)) {
            return 0;
        }
        int found = 0;
        // Each round but the last finds a new cell, so there are no more rounds than cells.
        for (int round = 0; round < CELLS; round++) {
            for (int other = 0; other < CELLS; other++) {
                int needed = neededCells(other);
                if ((needed & (found | 1 << cell)) != 0) {
                    found |= 1 << other;
                }
            }
        }
        return found;
    }

    public int changed() {
        return changedCells;
    }

    public int count(int state) {
        int cells = 0;
        for (int cell = 0; cell < CELLS; cell++) {
            if (states[cell] == state) {
                cells++;
            }
        }
        return cells;
    }

    private static boolean isCell(int number) {
        return number >= 0 && number < CELLS;
    }

    private static boolean namesFirst(int op) {
        return op != NONE && op != LOST;
    }

    private static boolean namesSecond(int op) {
        switch (op) {
            case ADD:
            case SUB:
            case MUL:
            case DIV:
            case SUM:
            case WHEN:
                return true;
            default:
                return false;
        }
    }

    private void hold(int cell, int op, int first, int second) {
        operations[cell] = op;
        firsts[cell] = first;
        seconds[cell] = second;
        unsettleAll();
        settleAll();
        noteChanges();
    }

    /** A formula stands as CIRCULAR until it is settled: what is never settled is then right as it stands. */
    private void unsettleAll() {
        for (int cell = 0; cell < CELLS; cell++) {
            statesBefore[cell] = states[cell];
            valuesBefore[cell] = values[cell];
            boolean constant = operations[cell] == NONE;
            states[cell] = constant ? NUMBER : CIRCULAR;
            values[cell] = constant ? firsts[cell] : 0;
        }
    }

    private void settleAll() {
        // A round that settles no cell is followed by none that does, so as many rounds as cells are enough.
        for (int round = 0; round < CELLS; round++) {
            for (int cell = 0; cell < CELLS; cell++) {
                int needed = neededCells(cell);
                int unsettled = circular();
                if (states[cell] == CIRCULAR && (needed & unsettled) == 0) {
                    settle(cell, needed);
                }
            }
        }
    }

    private void noteChanges() {
        changedCells = 0;
        for (int cell = 0; cell < CELLS; cell++) {
            if (states[cell] != statesBefore[cell] || values[cell] != valuesBefore[cell]) {
                changedCells |= 1 << cell;
            }
        }
    }

    private int neededCells(int cell) {
        int a = firsts[cell];
        int b = seconds[cell];
        switch (operations[cell]) {
            case ADD:
            case SUB:
            case MUL:
            case DIV:
            case WHEN:
                return 1 << a | 1 << b;
            case THROUGH:
                int target = throughTarget(cell);
                return target == NONE ? 1 << a : 1 << a | 1 << target;
            case SUM:
                return a < b ? (2 << b) - (1 << a) : (2 << a) - (1 << b);
            case ISERR:
                return 1 << a;
            default:
                return 0;
        }
    }

    /** The second cell that a THROUGH needs; NONE while its first cell is no NUMBER, and when the sum is no cell. */
    private int throughTarget(int cell) {
        int a = firsts[cell];
        if (states[a] != NUMBER) {
            return NONE;
        }
        // The sum is meant as a whole number: a long holds it without wrapping.
        long target = (long) values[a] + seconds[cell];
        return target >= 0 && target < CELLS ? (int) target : NONE;
    }

    private void settle(int cell, int needed) {
        int other = operations[cell] == THROUGH ? throughTarget(cell) : seconds[cell];
        int passedOn = firstError(cell, needed);
        int state = passedOn != NUMBER ? passedOn : ownState(operations[cell], other);
        states[cell] = state;
        values[cell] = state == NUMBER ? ownValue(cell, other, needed) : 0;
    }

    /** The state that a formula takes over from a cell that it needs; NUMBER when it takes over none. */
    private int firstError(int cell, int needed) {
        int op = operations[cell];
        if (op == ISERR || op == LOST) {
            return NUMBER;
        }
        // Beside a, all but SUM need at most one cell, so after a the order by number is right for them too.
        if (op != SUM && states[firsts[cell]] != NUMBER) {
            return states[firsts[cell]];
        }
        for (int member = 0; member < CELLS; member++) {
            if ((needed & 1 << member) != 0 && states[member] != NUMBER) {
                return states[member];
            }
        }
        return NUMBER;
    }

    private int ownState(int op, int other) {
        if (op == LOST || op == THROUGH && other == NONE) {
            return REF_ERROR;
        }
        return op == DIV && values[other] == 0 ? DIV_ERROR : NUMBER;
    }

    private int ownValue(int cell, int other, int needed) {
        int a = firsts[cell];
        switch (operations[cell]) {
            case ADD:
                return values[a] + values[other];
            case SUB:
                return values[a] - values[other];
            case MUL:
                return values[a] * values[other];
            case DIV:
                return quotient(values[a], values[other]);
            case THROUGH:
                return values[other];
            case SUM:
                return sumOf(needed);
            case ISERR:
                return states[a] == NUMBER ? 0 : 1;
            case WHEN:
                return values[a] != 0 ? values[other] : 0;
            default:
                return 0;
        }
    }

    /** The divisor is looked at here too, so that this division is safe whoever calls it. */
    private static int quotient(int dividend, int divisor) {
        return divisor == 0 ? 0 : dividend / divisor;
    }

    private int sumOf(int cells) {
        int sum = 0;
        for (int cell = 0; cell < CELLS; cell++) {
            if ((cells & 1 << cell) != 0) {
                sum += values[cell];
            }
        }
        return sum;
    }
}
