/** Each boundary case of promises 1 to 4, the calls that decide what a cell holds: both of its sides, and refusals. */
public final class HoldingBoundariesTest extends Checks {
    private static final int[] NO_OPERATIONS = {-1, 9, 10, 16, LEAST, GREATEST};

    public static void main(String[] args) {
        runAll(HoldingBoundariesTest.class);
    }

    // Promise 1

    static void newObjectHoldsTheConstant0FromTheFirstCellToTheLast() {
        about = "1: every cell holds the constant 0";
        IndirectSheet x = new IndirectSheet();
        for (int cell = 0; cell <= 15; cell++) {
            dueConstant(x, cell, 0);
        }
    }

    static void newObjectHasNothingThatIsNeededReachedCircularOrChanged() {
        about = "1: every cell holds the constant 0";
        IndirectSheet x = new IndirectSheet();
        for (int cell = 0; cell <= 15; cell++) {
            due("needs(" + cell + ")", x.needs(cell), 0);
            due("reached(" + cell + ")", x.reached(cell), 0);
        }
        due("circular()", x.circular(), 0);
        due("changed()", x.changed(), 0);
        due("count(NUMBER)", x.count(NUMBER), 16);
    }

    static void newObjectTakesNothingFromAnOlderOne() {
        about = "1: every cell holds the constant 0";
        IndirectSheet older = new IndirectSheet();
        IndirectSheet twin = new IndirectSheet();
        older.put(0, 1);
        older.formula(15, LOST, 0, 0);
        dueSameAnswers("after an older object changed, ", new IndirectSheet(), twin);
        dueNumber(older, 0, 1);
    }

    // Promise 2

    static void putTakesTheFirstAndTheLastCell() {
        about = "2: puts a constant into a cell and answers true";
        for (int cell : ENDS) {
            IndirectSheet x = busySheet();
            due("put(" + cell + ", 5)", x.put(cell, 5), true);
            dueConstant(x, cell, 5);
            dueSameHeldBut(cell, x, busySheet());
        }
    }

    static void putRefusesACellThatIsNone() {
        about = "2: false, changing nothing, when cell is not 0 .. 15";
        for (int cell : NO_CELLS) {
            dueRefused("put(" + cell + ", 5)", x -> x.put(cell, 5));
        }
    }

    static void putRefusesACellThatIsNoneWhateverTheConstant() {
        about = "2: false, changing nothing, when cell is not 0 .. 15";
        for (int v : FAR_CONSTANTS) {
            dueRefused("put(-1, " + v + ")", x -> x.put(-1, v));
            dueRefused("put(16, " + v + ")", x -> x.put(16, v));
        }
    }

    static void putTakesEveryConstantFromTheLeastIntToTheGreatest() {
        about = "2: puts a constant into a cell and answers true";
        for (int v : FAR_CONSTANTS) {
            IndirectSheet x = new IndirectSheet();
            due("put(7, " + v + ")", x.put(7, v), true);
            dueConstant(x, 7, v);
            due("changed()", x.changed(), v == 0 ? 0 : bits(7));
        }
    }

    static void putTakesTheConstantThatIsThereAlready() {
        about = "2: puts a constant into a cell and answers true";
        IndirectSheet x = new IndirectSheet();
        due("put(15, 0)", x.put(15, 0), true);
        dueConstant(x, 15, 0);
        x.put(15, 8);
        due("put(15, 8)", x.put(15, 8), true);
        dueConstant(x, 15, 8);
    }

    static void putTakesTheFormulaOfTheCellAway() {
        about = "2: puts a constant into a cell";
        for (int op = ADD; op <= LOST; op++) {
            IndirectSheet x = new IndirectSheet();
            x.formula(7, op, 6, 5);
            due("put(7, -1) over operation " + op, x.put(7, -1), true);
            dueConstant(x, 7, -1);
            due("needs(7)", x.needs(7), 0);
            due("reached(6)", x.reached(6), 0);
        }
    }

    // Promise 3

    static void formulaTakesTheFirstAndTheLastCell() {
        about = "3: puts a formula into a cell and answers true";
        for (int op = ADD; op <= LOST; op++) {
            for (int cell : ENDS) {
                dueTaken(cell, op, 6, 5);
            }
        }
    }

    static void formulaRefusesACellThatIsNone() {
        about = "3: false, changing nothing, when cell is not 0 .. 15";
        for (int op = ADD; op <= LOST; op++) {
            for (int cell : NO_CELLS) {
                dueRefusedFormula(cell, op, 6, 5);
            }
        }
    }

    static void formulaTakesTheFirstAndTheLastOperation() {
        about = "3: puts a formula into a cell and answers true";
        dueTaken(7, 0, 6, 5);
        dueTaken(7, 8, 6, 5);
    }

    static void formulaRefusesAnOperationThatIsNone() {
        about = "3: false, changing nothing, when op is not 0 .. 8";
        for (int op : NO_OPERATIONS) {
            dueRefusedFormula(7, op, 6, 5);
            dueRefusedFormula(0, op, 0, 0);
        }
    }

    static void formulaTakesTheFirstAndTheLastA() {
        about = "3: puts a formula into a cell and answers true";
        for (int op = ADD; op <= WHEN; op++) {
            for (int a : ENDS) {
                dueTaken(7, op, a, 5);
            }
        }
    }

    static void formulaRefusesAnAThatIsNoCell() {
        about = "3: false, changing nothing, when a is not 0 .. 15 (except for LOST)";
        for (int op = ADD; op <= WHEN; op++) {
            for (int a : NO_CELLS) {
                dueRefusedFormula(7, op, a, 5);
                dueRefusedFormula(8, op, a, 5);
            }
        }
    }

    static void formulaTakesAnyAForLost() {
        about = "3: a is not 0 .. 15 (except for LOST)";
        for (int a : NO_CELLS) {
            dueTaken(7, LOST, a, 5);
        }
    }

    static void formulaTakesAnyBForLost() {
        about = "3: b is not used by LOST, so none is refused";
        for (int b : NO_CELLS) {
            dueTaken(7, LOST, 6, b);
        }
        dueTaken(7, LOST, LEAST, GREATEST);
    }

    static void formulaTakesTheFirstAndTheLastBOfThrough() {
        about = "3: puts a formula into a cell and answers true";
        int[] shifts = {-15, -14, -1, 0, 1, 14, 15};
        for (int b : shifts) {
            dueTaken(7, THROUGH, 6, b);
        }
    }

    static void formulaRefusesABOfThroughBelowAndAbove() {
        about = "3: false, changing nothing, when b is not -15 .. 15 for THROUGH";
        int[] noShifts = {-16, 16, -17, 17, LEAST, GREATEST};
        for (int b : noShifts) {
            dueRefusedFormula(7, THROUGH, 6, b);
            dueRefusedFormula(8, THROUGH, 6, b);
        }
    }

    static void formulaTakesTheFirstAndTheLastBThatIsACell() {
        about = "3: puts a formula into a cell and answers true";
        for (int op : TWO_CELLS) {
            for (int b : ENDS) {
                dueTaken(7, op, 6, b);
            }
        }
    }

    static void formulaRefusesABThatIsNoCell() {
        about = "3: false, changing nothing, when b is not 0 .. 15 for ADD, SUB, MUL, DIV, SUM or WHEN";
        for (int op : TWO_CELLS) {
            for (int b : NO_CELLS) {
                dueRefusedFormula(7, op, 6, b);
                dueRefusedFormula(8, op, 6, b);
            }
            // these would be taken for THROUGH
            dueRefusedFormula(7, op, 6, -15);
            dueRefusedFormula(7, op, 15, -1);
        }
    }

    static void formulaTakesAnyBForIserr() {
        about = "3: b is not used by ISERR, so none is refused";
        for (int b : NO_CELLS) {
            dueTaken(7, ISERR, 6, b);
        }
    }

    static void formulaTakesAllItsNumbersAtTheirEnds() {
        about = "3: puts a formula into a cell and answers true";
        for (int op : TWO_CELLS) {
            dueTaken(0, op, 0, 0);
            dueTaken(0, op, 15, 15);
            dueTaken(15, op, 0, 15);
            dueTaken(15, op, 15, 0);
        }
        dueTaken(0, THROUGH, 0, -15);
        dueTaken(15, THROUGH, 15, 15);
    }

    static void formulaRefusesWhatIsWrongInMoreThanOneNumber() {
        about = "3: false, changing nothing";
        dueRefusedFormula(-1, -1, -1, -16);
        dueRefusedFormula(16, 9, 16, 16);
        dueRefusedFormula(16, ADD, 16, 16);
        dueRefusedFormula(7, ADD, -1, 16);
        dueRefusedFormula(7, THROUGH, 16, -16);
        dueRefusedFormula(-1, LOST, -1, -1);
        dueRefusedFormula(16, ISERR, 0, 16);
    }

    static void formulaTakesTheFormulaThatIsThereAlready() {
        about = "3: puts a formula into a cell and answers true";
        for (int op = ADD; op <= LOST; op++) {
            IndirectSheet x = new IndirectSheet();
            x.formula(7, op, 6, 5);
            due("formula(7, " + op + ", 6, 5) again", x.formula(7, op, 6, 5), true);
            due("changed()", x.changed(), 0);
        }
    }

    private static void dueTaken(int cell, int op, int a, int b) {
        IndirectSheet x = busySheet();
        theCase = "after " + formulaCall(cell, op, a, b) + ", ";
        due("formula", x.formula(cell, op, a, b), true);
        boolean usesB = op != ISERR && op != LOST;
        dueFormula(x, cell, op, op == LOST ? 0 : a, usesB ? b : 0);
        dueSameHeldBut(cell, x, busySheet());
    }

    private static void dueRefusedFormula(int cell, int op, int a, int b) {
        dueRefused(formulaCall(cell, op, a, b), x -> x.formula(cell, op, a, b));
    }

    private static String formulaCall(int cell, int op, int a, int b) {
        return "formula(" + cell + ", " + op + ", " + a + ", " + b + ")";
    }

    // Promise 4

    static void copyTakesTheFirstAndTheLastFromAndTo() {
        about = "4: copies what the cell from holds to the cell to, and answers true";
        for (int from : ENDS) {
            for (int to : ENDS) {
                IndirectSheet x = new IndirectSheet();
                x.put(from, 6);
                due("copy(" + from + ", " + to + ")", x.copy(from, to), true);
                dueConstant(x, to, 6);
                dueConstant(x, from, 6);
                due("count(NUMBER)", x.count(NUMBER), 16);
            }
        }
    }

    static void copyRefusesAFromThatIsNoCell() {
        about = "4: false, changing nothing, when from is not 0 .. 15";
        for (int from : NO_CELLS) {
            dueRefusedCopy(from, 0);
            dueRefusedCopy(from, 7);
            dueRefusedCopy(from, 15);
        }
    }

    static void copyRefusesAToThatIsNoCell() {
        about = "4: false, changing nothing, when to is not 0 .. 15";
        for (int to : NO_CELLS) {
            dueRefusedCopy(0, to);
            dueRefusedCopy(4, to);
            dueRefusedCopy(15, to);
        }
    }

    static void copyRefusesWhenNeitherIsACell() {
        about = "4: false, changing nothing, when from or to is not 0 .. 15";
        for (int from : NO_CELLS) {
            for (int to : NO_CELLS) {
                dueRefusedCopy(from, to);
            }
        }
    }

    private static void dueRefusedCopy(int from, int to) {
        dueRefused("copy(" + from + ", " + to + ")", x -> x.copy(from, to));
    }

    static void copyLeavesAConstantAsItIs() {
        about = "4: a constant as it is";
        for (int v : FAR_CONSTANTS) {
            IndirectSheet x = new IndirectSheet();
            x.put(0, v);
            x.formula(15, LOST, 0, 0);
            due("copy(0, 15)", x.copy(0, 15), true);
            dueConstant(x, 15, v);
            x.put(0, 3);
            due("copy(15, 0)", x.copy(15, 0), true);
            dueConstant(x, 0, v);
        }
    }

    static void copyMovesAUpToTheLastCell() {
        about = "4: a formula with the cells that it names moved by to - from";
        for (int op : TWO_CELLS) {
            dueMoved(0, 15, op, 0, 0, 15, 15);
            dueMoved(7, 8, op, 14, 6, 15, 7);
        }
        for (int op : ONE_CELL) {
            dueMoved(0, 15, op, 0, 0, 15, 0);
            dueMoved(7, 8, op, 14, 0, 15, 0);
        }
    }

    static void copyLosesAnAThatWouldBeAboveTheLastCell() {
        about = "4: when a cell that it names would not be 0 .. 15 then, the cell to gets the formula LOST";
        for (int op = ADD; op <= WHEN; op++) {
            dueLost(0, 15, op, 1, 0);
            dueLost(7, 8, op, 15, 6);
            dueLost(0, 15, op, 15, 0);
        }
    }

    static void copyMovesADownToTheFirstCell() {
        about = "4: a formula with the cells that it names moved by to - from";
        for (int op : TWO_CELLS) {
            dueMoved(15, 0, op, 15, 15, 0, 0);
            dueMoved(8, 7, op, 1, 6, 0, 5);
        }
        for (int op : ONE_CELL) {
            dueMoved(15, 0, op, 15, 0, 0, 0);
            dueMoved(8, 7, op, 1, 0, 0, 0);
        }
    }

    static void copyLosesAnAThatWouldBeBelowTheFirstCell() {
        about = "4: when a cell that it names would not be 0 .. 15 then, the cell to gets the formula LOST";
        for (int op = ADD; op <= WHEN; op++) {
            dueLost(15, 0, op, 14, 15);
            dueLost(8, 7, op, 0, 6);
            dueLost(15, 0, op, 0, 15);
        }
    }

    static void copyMovesBUpToTheLastCell() {
        about = "4: a formula with the cells that it names moved by to - from (a and b)";
        for (int op : TWO_CELLS) {
            dueMoved(7, 8, op, 6, 14, 7, 15);
            dueMoved(1, 15, op, 0, 1, 14, 15);
        }
    }

    static void copyLosesABThatWouldBeAboveTheLastCell() {
        about = "4: when a cell that it names would not be 0 .. 15 then, the cell to gets the formula LOST";
        for (int op : TWO_CELLS) {
            dueLost(7, 8, op, 6, 15);
            dueLost(0, 15, op, 0, 1);
            dueLost(0, 15, op, 0, 15);
        }
    }

    static void copyMovesBDownToTheFirstCell() {
        about = "4: a formula with the cells that it names moved by to - from (a and b)";
        for (int op : TWO_CELLS) {
            dueMoved(8, 7, op, 6, 1, 5, 0);
            dueMoved(14, 0, op, 15, 14, 1, 0);
        }
    }

    static void copyLosesABThatWouldBeBelowTheFirstCell() {
        about = "4: when a cell that it names would not be 0 .. 15 then, the cell to gets the formula LOST";
        for (int op : TWO_CELLS) {
            dueLost(8, 7, op, 6, 0);
            dueLost(15, 0, op, 15, 14);
            dueLost(15, 0, op, 15, 0);
        }
    }

    static void copyLosesBothCellsAtOnce() {
        about = "4: when a cell that it names would not be 0 .. 15 then, the cell to gets the formula LOST";
        for (int op : TWO_CELLS) {
            dueLost(7, 8, op, 15, 15);
            dueLost(8, 7, op, 0, 0);
        }
    }

    static void copyDoesNotMoveTheBOfThrough() {
        about = "4: but not the b of THROUGH";
        int[] shifts = {-15, -1, 0, 1, 15};
        for (int b : shifts) {
            dueMoved(0, 15, THROUGH, 0, b, 15, b);
            dueMoved(15, 0, THROUGH, 15, b, 0, b);
            dueMoved(7, 8, THROUGH, 6, b, 7, b);
        }
    }

    static void copyLeavesTheBOfIserrAt0() {
        about = "4: the cells that it names moved; the b of ISERR is not used, and counts as 0";
        dueMoved(0, 15, ISERR, 0, 5, 15, 0);
        dueMoved(15, 0, ISERR, 15, 5, 0, 0);
        dueMoved(8, 7, ISERR, 6, 0, 5, 0);
    }

    static void copyOfLostIsLostHoweverFarItGoes() {
        about = "4: LOST names no cell";
        dueLost(0, 15, LOST, 0, 0);
        dueLost(15, 0, LOST, 0, 0);
        dueLost(7, 7, LOST, 0, 0);
    }

    static void copyToTheCellItselfMovesNothing() {
        about = "4: moved by to - from";
        for (int op = ADD; op <= WHEN; op++) {
            for (int cell : ENDS) {
                dueMoved(cell, cell, op, 0, 15, 0, op == ISERR ? 0 : 15);
                dueMoved(cell, cell, op, 15, 0, 15, 0);
            }
        }
    }

    static void copyDoesNotBringBackWhatWasLost() {
        about = "4: the cell to gets the formula LOST";
        IndirectSheet x = new IndirectSheet();
        x.formula(8, ADD, 0, 1);
        x.copy(8, 7);
        due("copy(7, 8)", x.copy(7, 8), true);
        dueFormula(x, 8, LOST, 0, 0);
        dueOther(x, 8, REF_ERROR);
    }

    static void copyPutsAFormulaOverACellThatItNamed() {
        about = "4: copies what the cell from holds to the cell to";
        IndirectSheet x = new IndirectSheet();
        x.put(2, 4);
        x.put(3, 5);
        x.formula(0, ADD, 1, 2);
        due("copy(0, 1)", x.copy(0, 1), true);
        dueFormula(x, 1, ADD, 2, 3);
        dueNumber(x, 1, 9);
        dueNumber(x, 0, 13);
        due("changed()", x.changed(), bits(0, 1));
    }

    static void copyMovesACellOntoTheCellItself() {
        about = "4: a cell may need itself after the move too";
        IndirectSheet x = new IndirectSheet();
        x.formula(4, ADD, 4, 4);
        due("copy(4, 15)", x.copy(4, 15), true);
        dueFormula(x, 15, ADD, 15, 15);
        due("circular()", x.circular(), bits(4, 15));
    }

    private static void dueMoved(int from, int to, int op, int a, int b, int aThen, int bThen) {
        IndirectSheet x = dueCopied(from, to, op, a, b);
        dueFormula(x, to, op, aThen, bThen);
    }

    private static void dueLost(int from, int to, int op, int a, int b) {
        IndirectSheet x = dueCopied(from, to, op, a, b);
        dueFormula(x, to, LOST, 0, 0);
        dueOther(x, to, REF_ERROR);
        due("needs(" + to + ")", x.needs(to), 0);
    }

    /** The sheet after a formula was put and copied; only the cell to may hold something else by the copy. */
    private static IndirectSheet dueCopied(int from, int to, int op, int a, int b) {
        IndirectSheet x = busySheet();
        IndirectSheet twin = busySheet();
        x.formula(from, op, a, b);
        twin.formula(from, op, a, b);
        theCase = "after " + formulaCall(from, op, a, b) + " and copy(" + from + ", " + to + "), ";
        due("copy", x.copy(from, to), true);
        dueSameHeldBut(to, x, twin);
        return x;
    }
}
