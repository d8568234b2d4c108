import java.lang.reflect.InvocationTargetException;
import java.lang.reflect.Method;
import java.lang.reflect.Modifier;
import java.util.Arrays;
import java.util.Comparator;
import java.util.LinkedHashMap;
import java.util.Map;

/** What the tests of the promises share; a test class extends it to use these names as they stand. */
abstract class Checks {
    static final int ADD = 0, SUB = 1, MUL = 2, DIV = 3, THROUGH = 4, SUM = 5, ISERR = 6, WHEN = 7, LOST = 8;
    static final int NUMBER = 0, DIV_ERROR = 1, REF_ERROR = 2, CIRCULAR = 3, NONE = -1;
    static final int LEAST = Integer.MIN_VALUE, GREATEST = Integer.MAX_VALUE;
    static final int ALL_CELLS = 65535;

    static final int[] ENDS = {0, 15};
    /** The first numbers below and above that are no cell, the farthest, and some that a mask would turn into a cell. */
    static final int[] NO_CELLS = {-1, 16, 17, 32, LEAST, GREATEST};
    /** The operations that need just a and b. */
    static final int[] A_AND_B = {ADD, SUB, MUL, DIV, WHEN};
    /** The operations whose a and b are both cells. */
    static final int[] TWO_CELLS = {ADD, SUB, MUL, DIV, SUM, WHEN};
    static final int[] ONE_CELL = {THROUGH, ISERR};
    static final int[] FAR_CONSTANTS = {LEAST, LEAST + 1, -16, -1, 0, 1, 15, 16, GREATEST - 1, GREATEST};

    /** What the test at hand is about, and which case of it is at hand; they stand before each wrong answer. */
    static String about = "";
    static String theCase = "";

    private static int wrong = 0;

    interface Call {
        boolean on(IndirectSheet x);
    }

    /** Runs every test of a class, that is each static method without parameters that answers nothing. */
    static void runAll(Class<?> tests) {
        Method[] methods = tests.getDeclaredMethods();
        Arrays.sort(methods, Comparator.comparing(Method::getName));
        int number = 0;
        for (Method method : methods) {
            boolean answersNothing = method.getReturnType() == void.class && method.getParameterCount() == 0;
            if (answersNothing && Modifier.isStatic(method.getModifiers()) && !method.isSynthetic()) {
                number++;
                run(method);
            }
        }
        String answers = wrong == 0 ? "all answers are as due" : wrong + " answers are not as due";
        System.out.println(number + " tests: " + answers);
        if (wrong != 0 || number == 0) {
            System.exit(1);
        }
    }

    private static void run(Method method) {
        about = method.getName();
        theCase = "";
        try {
            method.invoke(null);
        } catch (InvocationTargetException e) {
            wrong++;
            System.out.println(about + ": " + method.getName() + " ended with " + e.getCause());
        } catch (IllegalAccessException e) {
            throw new IllegalStateException(e);
        }
    }

    static void due(String call, long got, long want) {
        if (got != want) {
            wrong++;
            System.out.println(about + ": " + theCase + call + " answered " + got + ", due is " + want);
        }
    }

    static void due(String call, boolean got, boolean want) {
        due(call, got ? 1 : 0, want ? 1 : 0);
    }

    static void dueNumber(IndirectSheet x, int cell, int want) {
        due("state(" + cell + ")", x.state(cell), NUMBER);
        due("value(" + cell + ")", x.value(cell), want);
    }

    static void dueOther(IndirectSheet x, int cell, int want) {
        due("state(" + cell + ")", x.state(cell), want);
        due("value(" + cell + ")", x.value(cell), 0);
    }

    static void dueFormula(IndirectSheet x, int cell, int op, int a, int b) {
        due("operation(" + cell + ")", x.operation(cell), op);
        due("operand(" + cell + ", 0)", x.operand(cell, 0), a);
        due("operand(" + cell + ", 1)", x.operand(cell, 1), b);
    }

    static void dueConstant(IndirectSheet x, int cell, int want) {
        dueFormula(x, cell, NONE, NONE, NONE);
        dueNumber(x, cell, want);
    }

    static int bits(int... cells) {
        int mask = 0;
        for (int cell : cells) {
            mask |= 1 << cell;
        }
        return mask;
    }

    /** A sheet whose cell 14 is DIV_ERROR, 15 REF_ERROR and 13 CIRCULAR; the others are the constant 0. */
    static IndirectSheet sheetWithErrors() {
        IndirectSheet x = new IndirectSheet();
        x.formula(13, ADD, 13, 13);
        x.formula(14, DIV, 12, 12);
        x.formula(15, LOST, 0, 0);
        return x;
    }

    /** A sheet with every operation and every state in it, whose last change made several cells different. */
    static IndirectSheet busySheet() {
        IndirectSheet x = new IndirectSheet();
        x.put(5, -7);
        x.put(12, LEAST);
        x.formula(1, THROUGH, 0, 2);
        x.formula(2, SUM, 1, 0);
        x.formula(3, MUL, 0, 5);
        x.formula(4, LOST, 0, 0);
        x.formula(6, ISERR, 4, 0);
        x.formula(7, DIV, 5, 8);
        x.formula(9, SUB, 9, 0);
        x.formula(10, WHEN, 0, 5);
        x.formula(11, ADD, 9, 5);
        x.formula(13, THROUGH, 12, 15);
        x.formula(14, ADD, 5, 12);
        x.formula(15, DIV, 12, 5);
        x.put(0, 3);
        return x;
    }

    /** The call answers false and changes nothing, neither in a new sheet nor in one that is in use. */
    static void dueRefused(String name, Call call) {
        dueRefusedBy(name, call, new IndirectSheet(), new IndirectSheet());
        dueRefusedBy(name, call, busySheet(), busySheet());
    }

    private static void dueRefusedBy(String name, Call call, IndirectSheet x, IndirectSheet twin) {
        due(name, call.on(x), false);
        dueSameAnswers("after " + name + " was refused, ", x, twin);
        // a later change brings to light what a refused call might have left behind unseen
        x.put(8, 2);
        twin.put(8, 2);
        dueSameAnswers("after " + name + " was refused, and put(8, 2), ", x, twin);
    }

    static void dueSameAnswers(String when, IndirectSheet x, IndirectSheet twin) {
        Map<String, Integer> want = answers(twin);
        answers(x).forEach((call, got) -> due(when + call, got, want.get(call)));
    }

    /** What all the calls answer that only ask. */
    private static Map<String, Integer> answers(IndirectSheet x) {
        Map<String, Integer> all = new LinkedHashMap<>();
        for (int cell = 0; cell < 16; cell++) {
            all.put("operation(" + cell + ")", x.operation(cell));
            all.put("operand(" + cell + ", 0)", x.operand(cell, 0));
            all.put("operand(" + cell + ", 1)", x.operand(cell, 1));
            all.put("state(" + cell + ")", x.state(cell));
            all.put("value(" + cell + ")", x.value(cell));
            all.put("needs(" + cell + ")", x.needs(cell));
            all.put("reached(" + cell + ")", x.reached(cell));
        }
        for (int state = NUMBER; state <= CIRCULAR; state++) {
            all.put("count(" + state + ")", x.count(state));
        }
        all.put("circular()", x.circular());
        all.put("changed()", x.changed());
        return all;
    }

    /** All cells but one hold what they hold in the twin. */
    static void dueSameHeldBut(int but, IndirectSheet x, IndirectSheet twin) {
        for (int cell = 0; cell < 16; cell++) {
            if (cell != but) {
                dueFormula(x, cell, twin.operation(cell), twin.operand(cell, 0), twin.operand(cell, 1));
                boolean constant = twin.operation(cell) == NONE;
                due("value(" + cell + ")", constant ? x.value(cell) : 0, constant ? twin.value(cell) : 0);
            }
        }
    }
}
