import java.math.BigInteger;
import java.util.ArrayList;
import java.util.Arrays;
import java.util.List;
import java.util.TreeSet;

/**
 * Long runs against a second sheet, written from the document in another way: it works a cell out
 * by going down through what the cell needs, and calls a cell CIRCULAR that it meets on its own way down.
 */
public final class ModelTest {
    private static final int RUNS = 4000;
    private static final int GREATEST_LENGTH = 150;
    private static final int MOST_CALLS = 512;

    private static final int NUMBER = 0, DIV_ERROR = 1, REF_ERROR = 2, CIRCULAR = 3, NONE = -1;

    private static int wrong = 0;
    private static long seed = 20261115L;

    private final IndirectSheet sheet = new IndirectSheet();
    private final int[][] held = new int[16][];
    private final List<String> calls = new ArrayList<>();
    private Integer[] states = new Integer[16];
    private int[] values = new int[16];
    private int changed = 0;
    private int callsMade = 0;

    public static void main(String[] args) {
        for (int run = 0; run < RUNS && wrong == 0; run++) {
            new ModelTest().run();
        }
        System.out.println(wrong == 0 ? "all answers are as due" : wrong + " answers are not as due");
        if (wrong != 0) {
            System.exit(1);
        }
    }

    private ModelTest() {
        for (int cell = 0; cell < 16; cell++) {
            held[cell] = new int[] {NONE, 0, 0};
        }
        workOutAll();
    }

    private void run() {
        int length = below(GREATEST_LENGTH) + 1;
        for (int step = 0; step < length; step++) {
            change();
            due("changed()", sheet.changed(), changed);
        }
        for (int cell = -1; cell <= 16; cell++) {
            compareCell(cell);
        }
        int circularCells = 0;
        int[] counts = new int[4];
        for (int cell = 0; cell < 16; cell++) {
            counts[states[cell]]++;
            circularCells |= states[cell] == CIRCULAR ? 1 << cell : 0;
        }
        due("circular()", sheet.circular(), circularCells);
        for (int state = -1; state <= 4; state++) {
            due("count(" + state + ")", sheet.count(state), state < 0 || state > 3 ? 0 : counts[state]);
        }
        if (callsMade > MOST_CALLS) {
            throw new IllegalStateException("the run is longer than the document promises anything for");
        }
    }

    // The calls that change the sheet

    private void change() {
        int kind = below(10);
        if (kind < 3) {
            changeByPut(someCell(), someConstant());
        } else if (kind < 8) {
            int op = below(40) == 0 ? 9 : below(9);
            changeByFormula(someCell(), op, someCell(), op == 4 ? below(33) - 16 : someCell());
        } else {
            changeByCopy(someCell(), someCell());
        }
    }

    private void changeByPut(int cell, int v) {
        calls.add("put(" + cell + ", " + v + ")");
        boolean right = isCell(cell);
        due(calls.get(calls.size() - 1), sheet.put(cell, v) ? 1 : 0, right ? 1 : 0);
        if (right) {
            hold(cell, NONE, v, 0);
        }
    }

    private void changeByFormula(int cell, int op, int a, int b) {
        calls.add("formula(" + cell + ", " + op + ", " + a + ", " + b + ")");
        boolean right = isCell(cell) && op >= 0 && op <= 8
            && (op == 8 || isCell(a))
            && (op == 8 || op == 6 || (op == 4 ? b >= -15 && b <= 15 : isCell(b)));
        due(calls.get(calls.size() - 1), sheet.formula(cell, op, a, b) ? 1 : 0, right ? 1 : 0);
        if (right) {
            hold(cell, op, op == 8 ? 0 : a, op == 8 || op == 6 ? 0 : b);
        }
    }

    private void changeByCopy(int from, int to) {
        calls.add("copy(" + from + ", " + to + ")");
        boolean right = isCell(from) && isCell(to);
        due(calls.get(calls.size() - 1), sheet.copy(from, to) ? 1 : 0, right ? 1 : 0);
        if (!right) {
            return;
        }
        int op = held[from][0];
        int by = to - from;
        int a = held[from][1];
        int b = held[from][2];
        if (op == NONE || op == 8) {
            hold(to, op, a, b);
        } else if (op == 4 || op == 6) {
            copyTo(to, op, a + by, b, isCell(a + by));
        } else {
            copyTo(to, op, a + by, b + by, isCell(a + by) && isCell(b + by));
        }
    }

    private void copyTo(int to, int op, int a, int b, boolean inside) {
        if (inside) {
            hold(to, op, a, b);
        } else {
            hold(to, 8, 0, 0);
        }
    }

    private void hold(int cell, int op, int a, int b) {
        held[cell] = new int[] {op, a, b};
        Integer[] statesBefore = states;
        int[] valuesBefore = values;
        workOutAll();
        changed = 0;
        for (int i = 0; i < 16; i++) {
            boolean same = states[i].equals(statesBefore[i]) && (states[i] != NUMBER || values[i] == valuesBefore[i]);
            changed |= same ? 0 : 1 << i;
        }
    }

    // The states, worked out from above

    private void workOutAll() {
        states = new Integer[16];
        values = new int[16];
        for (int cell = 0; cell < 16; cell++) {
            workOut(cell, new TreeSet<>());
        }
    }

    private int workOut(int cell, TreeSet<Integer> above) {
        if (states[cell] != null) {
            return states[cell];
        }
        if (above.contains(cell)) {
            return CIRCULAR;
        }
        TreeSet<Integer> way = new TreeSet<>(above);
        way.add(cell);
        int state = workOutHeld(cell, way);
        states[cell] = state;
        return state;
    }

    private int workOutHeld(int cell, TreeSet<Integer> way) {
        int op = held[cell][0];
        int a = held[cell][1];
        int b = held[cell][2];
        if (op == NONE) {
            values[cell] = a;
            return NUMBER;
        }
        List<Integer> order = new ArrayList<>();
        switch (op) {
            case 0: case 1: case 2: case 3: case 7: order = Arrays.asList(a, b); break;
            case 4: case 6: order = Arrays.asList(a); break;
            case 5: for (int i = Math.min(a, b); i <= Math.max(a, b); i++) { order.add(i); } break;
            default: return REF_ERROR;
        }
        int error = NUMBER;
        for (int needed : order) {
            int state = workOut(needed, way);
            if (state == CIRCULAR) {
                return CIRCULAR;
            }
            error = error == NUMBER ? state : error;
        }
        if (op == 6) {
            values[cell] = error == NUMBER ? 0 : 1;
            return NUMBER;
        }
        if (error != NUMBER) {
            return error;
        }
        return op == 4 ? follow(cell, way) : calculate(cell, order);
    }

    private int follow(int cell, TreeSet<Integer> way) {
        BigInteger target = big(held[cell][1]).add(BigInteger.valueOf(held[cell][2]));
        if (target.signum() < 0 || target.compareTo(BigInteger.valueOf(15)) > 0) {
            return REF_ERROR;
        }
        int state = workOut(target.intValue(), way);
        values[cell] = state == NUMBER ? values[target.intValue()] : 0;
        return state;
    }

    private int calculate(int cell, List<Integer> order) {
        BigInteger a = big(held[cell][1]);
        BigInteger b = big(held[cell][2]);
        BigInteger answer = BigInteger.ZERO;
        switch (held[cell][0]) {
            case 0: answer = a.add(b); break;
            case 1: answer = a.subtract(b); break;
            case 2: answer = a.multiply(b); break;
            case 3:
                if (b.signum() == 0) {
                    return DIV_ERROR;
                }
                answer = a.divide(b);
                break;
            case 5: for (int needed : order) { answer = answer.add(big(needed)); } break;
            default: answer = a.signum() != 0 ? b : BigInteger.ZERO;
        }
        values[cell] = answer.intValue();
        return NUMBER;
    }

    private BigInteger big(int cell) {
        return BigInteger.valueOf(values[cell]);
    }

    private int neededBy(int cell) {
        int op = held[cell][0];
        int a = held[cell][1];
        int b = held[cell][2];
        int mask = 0;
        for (int i = 0; i < 16; i++) {
            boolean target = op == 4 && states[a] == NUMBER && (long) values[a] + b == i;
            boolean inSpan = op == 5 && i >= Math.min(a, b) && i <= Math.max(a, b);
            boolean isFirst = op != NONE && op != 8 && i == a;
            boolean isSecond = op != NONE && op != 8 && op != 4 && op != 6 && i == b;
            mask |= target || inSpan || isFirst || isSecond ? 1 << i : 0;
        }
        return mask;
    }

    private int reachedFrom(int cell) {
        TreeSet<Integer> found = new TreeSet<>();
        List<Integer> toLookAt = new ArrayList<>(Arrays.asList(cell));
        while (!toLookAt.isEmpty()) {
            int needed = toLookAt.remove(0);
            for (int i = 0; i < 16; i++) {
                if ((neededBy(i) >> needed & 1) == 1 && found.add(i)) {
                    toLookAt.add(i);
                }
            }
        }
        int mask = 0;
        for (int i : found) {
            mask |= 1 << i;
        }
        return mask;
    }

    private void compareCell(int cell) {
        boolean is = isCell(cell);
        boolean formula = is && held[cell][0] != NONE;
        due("operation(" + cell + ")", sheet.operation(cell), formula ? held[cell][0] : NONE);
        due("operand(" + cell + ", 0)", sheet.operand(cell, 0), formula ? held[cell][1] : NONE);
        due("operand(" + cell + ", 1)", sheet.operand(cell, 1), formula ? held[cell][2] : NONE);
        due("state(" + cell + ")", sheet.state(cell), is ? states[cell] : NONE);
        due("value(" + cell + ")", sheet.value(cell), is && states[cell] == NUMBER ? values[cell] : 0);
        due("needs(" + cell + ")", sheet.needs(cell), is ? neededBy(cell) : 0);
        due("reached(" + cell + ")", sheet.reached(cell), is ? reachedFrom(cell) : 0);
    }

    private void due(String call, long got, long want) {
        callsMade++;
        if (got != want) {
            if (wrong == 0) {
                System.out.println("after " + calls);
            }
            wrong++;
            System.out.println(call + " answered " + got + ", due is " + want);
        }
    }

    // The choices: from a fixed start, so that every run of this test is the same

    private static int below(int bound) {
        seed = seed * 6364136223846793005L + 1442695040888963407L;
        return (int) ((seed >>> 33) % bound);
    }

    private static int someCell() {
        return below(60) == 0 ? (below(2) == 0 ? -1 : 16) : below(16);
    }

    private static int someConstant() {
        int[] far = {Integer.MIN_VALUE, Integer.MAX_VALUE, Integer.MIN_VALUE + 14, Integer.MAX_VALUE - 14, 65536};
        return below(8) == 0 ? far[below(far.length)] : below(24) - 4;
    }

    private static boolean isCell(int number) {
        return number >= 0 && number <= 15;
    }
}
