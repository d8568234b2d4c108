/** Each boundary case of promises 5 to 13, the calls that only ask: both of its sides, and what is no cell or state. */
public final class AskingBoundariesTest extends Checks {
    public static void main(String[] args) {
        runAll(AskingBoundariesTest.class);
    }

    static void askingChangesNothing() {
        about = "5 to 13: a call that asks changes nothing";
        IndirectSheet x = busySheet();
        int[] numbers = {LEAST, -1, 0, 7, 15, 16, GREATEST};
        for (int number : numbers) {
            x.operation(number);
            x.operand(number, 0);
            x.operand(7, number);
            x.state(number);
            x.value(number);
            x.needs(number);
            x.reached(number);
            x.count(number);
        }
        dueSameAnswers("", x, busySheet());
    }

    // Promise 5

    static void operationOfTheFirstAndTheLastCell() {
        about = "5: the operation in a cell";
        for (int op = ADD; op <= LOST; op++) {
            IndirectSheet x = new IndirectSheet();
            x.formula(0, op, 7, 7);
            due("operation(0)", x.operation(0), op);
            due("operation(15)", x.operation(15), NONE);
            x.put(0, op);
            x.formula(15, op, 7, 7);
            due("operation(15)", x.operation(15), op);
            due("operation(0)", x.operation(0), NONE);
        }
    }

    static void operationOfAConstantIsNone() {
        about = "5: NONE when it holds a constant";
        for (int v : FAR_CONSTANTS) {
            IndirectSheet x = new IndirectSheet();
            x.formula(7, LOST, 0, 0);
            x.put(7, v);
            due("operation(7) of " + v, x.operation(7), NONE);
        }
    }

    static void operationOfNoCellIsNone() {
        about = "5: NONE when cell is not 0 .. 15";
        IndirectSheet x = sheetOfSums();
        for (int cell : NO_CELLS) {
            due("operation(" + cell + ")", x.operation(cell), NONE);
        }
    }

    static void operationStaysWhateverTheState() {
        about = "5: the operation in a cell";
        IndirectSheet x = sheetWithErrors();
        due("operation(13)", x.operation(13), ADD);
        due("operation(14)", x.operation(14), DIV);
        due("operation(15)", x.operation(15), LOST);
    }

    // Promise 6

    static void operandFirstAndSecond() {
        about = "6: the first (which 0) or second (which 1) number of the formula in a cell";
        for (int cell : ENDS) {
            IndirectSheet x = new IndirectSheet();
            x.formula(cell, SUM, 9, 2);
            due("operand(" + cell + ", 0)", x.operand(cell, 0), 9);
            due("operand(" + cell + ", 1)", x.operand(cell, 1), 2);
        }
    }

    static void operandAtTheEndsOfWhatIsTaken() {
        about = "6: the first or second number of the formula in a cell";
        IndirectSheet x = new IndirectSheet();
        x.formula(7, SUB, 15, 0);
        dueFormula(x, 7, SUB, 15, 0);
        x.formula(7, SUB, 0, 15);
        dueFormula(x, 7, SUB, 0, 15);
        x.formula(7, THROUGH, 15, -15);
        dueFormula(x, 7, THROUGH, 15, -15);
        x.formula(7, THROUGH, 0, 15);
        dueFormula(x, 7, THROUGH, 0, 15);
        x.formula(7, THROUGH, 0, -1);
        dueFormula(x, 7, THROUGH, 0, -1);
    }

    static void operandOfAConstantIsNone() {
        about = "6: NONE when it holds a constant";
        for (int v : FAR_CONSTANTS) {
            IndirectSheet x = new IndirectSheet();
            x.formula(7, ADD, 3, 4);
            x.put(7, v);
            due("operand(7, 0) of " + v, x.operand(7, 0), NONE);
            due("operand(7, 1) of " + v, x.operand(7, 1), NONE);
        }
    }

    static void operandThatIsNeitherFirstNorSecondIsNone() {
        about = "6: NONE when which is not 0 or 1";
        IndirectSheet x = sheetOfSums();
        int[] noWhich = {-1, 2, 3, LEAST, GREATEST};
        for (int which : noWhich) {
            due("operand(0, " + which + ")", x.operand(0, which), NONE);
            due("operand(15, " + which + ")", x.operand(15, which), NONE);
        }
    }

    static void operandOfNoCellIsNone() {
        about = "6: NONE when cell is not 0 .. 15";
        IndirectSheet x = sheetOfSums();
        for (int cell : NO_CELLS) {
            due("operand(" + cell + ", 0)", x.operand(cell, 0), NONE);
            due("operand(" + cell + ", 1)", x.operand(cell, 1), NONE);
            due("operand(" + cell + ", 2)", x.operand(cell, 2), NONE);
        }
    }

    static void operandThatIsNotUsedIs0() {
        about = "6: numbers that are not used are 0";
        IndirectSheet x = new IndirectSheet();
        x.formula(7, ADD, 11, 12);
        x.formula(7, ISERR, 11, 12);
        dueFormula(x, 7, ISERR, 11, 0);
        x.formula(7, LOST, 11, 12);
        dueFormula(x, 7, LOST, 0, 0);
        x.formula(8, ADD, 15, 15);
        x.copy(8, 9);
        dueFormula(x, 9, LOST, 0, 0);
    }

    /** A sheet all of whose cells hold a formula, so that no answer of NONE or 0 comes from a constant. */
    private static IndirectSheet sheetOfSums() {
        IndirectSheet x = new IndirectSheet();
        for (int cell = 0; cell < 16; cell++) {
            x.formula(cell, SUM, 3, 5);
        }
        return x;
    }

    // Promises 7 and 8

    static void stateOfTheFirstAndTheLastCell() {
        about = "7: the state of a cell";
        for (int cell : ENDS) {
            IndirectSheet x = new IndirectSheet();
            due("state(" + cell + ")", x.state(cell), NUMBER);
            x.formula(cell, DIV, 7, 7);
            due("state(" + cell + ")", x.state(cell), DIV_ERROR);
            x.formula(cell, LOST, 7, 7);
            due("state(" + cell + ")", x.state(cell), REF_ERROR);
            x.formula(cell, ADD, cell, cell);
            due("state(" + cell + ")", x.state(cell), CIRCULAR);
            x.put(cell, 7);
            due("state(" + cell + ")", x.state(cell), NUMBER);
        }
    }

    static void stateOfNoCellIsNone() {
        about = "7: NONE when cell is not 0 .. 15";
        IndirectSheet x = sheetOfSums();
        for (int cell : NO_CELLS) {
            due("state(" + cell + ")", x.state(cell), NONE);
        }
    }

    static void valueOfTheFirstAndTheLastCell() {
        about = "8: the value of a cell that is NUMBER";
        for (int cell : ENDS) {
            IndirectSheet x = new IndirectSheet();
            x.put(7, LEAST);
            x.formula(cell, ADD, 7, 8);
            due("value(" + cell + ")", x.value(cell), LEAST);
            x.put(cell, GREATEST);
            due("value(" + cell + ")", x.value(cell), GREATEST);
        }
    }

    static void valueOfACellThatIsNoNumberIs0() {
        about = "8: 0 for any other";
        for (int other = 13; other <= 15; other++) {
            IndirectSheet x = sheetWithErrors();
            x.put(1, 9);
            due("value(1)", x.value(1), 9);
            x.formula(1, SUM, other, other);
            theCase = "with the state of cell " + other + ", ";
            due("value(1) after it was 9", x.value(1), 0);
            due("value(" + other + ")", x.value(other), 0);
        }
    }

    static void valueComesBackWithTheState() {
        about = "8: the value of a cell that is NUMBER";
        IndirectSheet x = new IndirectSheet();
        x.put(1, 9);
        x.put(2, 3);
        x.formula(3, DIV, 1, 2);
        x.put(2, 0);
        due("value(3)", x.value(3), 0);
        x.put(2, 3);
        due("value(3)", x.value(3), 3);
    }

    static void valueOfNoCellIs0() {
        about = "8: 0 for any other";
        IndirectSheet x = new IndirectSheet();
        for (int cell = 0; cell < 16; cell++) {
            x.put(cell, 9);
        }
        for (int cell : NO_CELLS) {
            due("value(" + cell + ")", x.value(cell), 0);
        }
    }

    // Promise 9

    static void circularOfNone() {
        about = "9: the cells that are CIRCULAR";
        IndirectSheet x = new IndirectSheet();
        due("circular() of a new object", x.circular(), 0);
        x.formula(0, LOST, 0, 0);
        x.formula(15, DIV, 1, 1);
        due("circular() with errors", x.circular(), 0);
    }

    static void circularOfEachCellAlone() {
        about = "9: bit i for cell i";
        for (int cell = 0; cell < 16; cell++) {
            IndirectSheet x = new IndirectSheet();
            x.formula(cell, MUL, cell, cell);
            due("circular()", x.circular(), 1 << cell);
            x.put(cell, 0);
            due("circular() once it is a constant", x.circular(), 0);
        }
    }

    static void circularOfAll() {
        about = "9: the cells that are CIRCULAR";
        IndirectSheet x = sheetOfSums();
        due("circular()", x.circular(), ALL_CELLS);
    }

    // Promise 10

    static void needsOfAAndBAtTheEnds() {
        about = "10: the cells that a cell needs";
        for (int op : A_AND_B) {
            theCase = "operation " + op + ", ";
            dueNeeds(op, 0, 15, bits(0, 15));
            dueNeeds(op, 15, 0, bits(0, 15));
            dueNeeds(op, 0, 0, bits(0));
            dueNeeds(op, 15, 15, bits(15));
            dueNeeds(op, 7, 3, bits(3, 7));
        }
    }

    static void needsOfSumIsItsSpan() {
        about = "10: SUM needs all cells of its span";
        dueNeeds(SUM, 3, 6, bits(3, 4, 5, 6));
        dueNeeds(SUM, 6, 3, bits(3, 4, 5, 6));
        dueNeeds(SUM, 0, 0, bits(0));
        dueNeeds(SUM, 15, 15, bits(15));
        dueNeeds(SUM, 0, 1, bits(0, 1));
        dueNeeds(SUM, 15, 14, bits(14, 15));
        dueNeeds(SUM, 0, 15, ALL_CELLS);
        dueNeeds(SUM, 15, 0, ALL_CELLS);
    }

    static void needsOfIserrIsAAlone() {
        about = "10: ISERR needs a";
        dueNeeds(ISERR, 0, 15, bits(0));
        dueNeeds(ISERR, 15, 0, bits(15));
    }

    static void needsOfLostIsNone() {
        about = "10: LOST needs none";
        dueNeeds(LOST, 0, 15, 0);
        dueNeeds(LOST, 15, 0, 0);
    }

    static void needsOfThroughIsTheOtherCellToo() {
        about = "10: THROUGH needs a, and, when a is NUMBER and the sum is a cell, that cell";
        dueNeeds(THROUGH, 0, 0, bits(0));
        dueNeeds(THROUGH, 0, 15, bits(0, 15));
        dueNeeds(THROUGH, 15, 0, bits(0, 15));
        dueNeeds(THROUGH, 15, 7, bits(7, 15));
    }

    static void needsOfThroughIsAAloneWhenTheSumIsNoCell() {
        about = "10: THROUGH needs a, and, when a is NUMBER and the sum is a cell, that cell";
        dueNeeds(THROUGH, 0, -1, bits(0));
        dueNeeds(THROUGH, 0, -15, bits(0));
        int[][] rows = {
            {1, 15, 0}, {2, 15, 0}, {1, 14, 1}, {-1, 0, 0}, {15, -15, 1}, {14, -15, 0}, {30, -15, 1}, {31, -15, 0},
            {GREATEST, 15, 0}, {LEAST, -15, 0}, {-15, 15, 1}, {-16, 15, 0}, {16, 0, 0}, {15, 0, 1},
        };
        for (int[] row : rows) {
            IndirectSheet x = new IndirectSheet();
            x.put(3, row[0]);
            x.formula(8, THROUGH, 3, row[1]);
            int other = row[2] == 1 ? 1 << row[0] + row[1] : 0;
            due("needs(8) by " + row[0] + " and " + row[1], x.needs(8), bits(3) | other);
        }
    }

    static void needsOfThroughIsAAloneWhenAIsNoNumber() {
        about = "10: for THROUGH, a alone when a is not NUMBER";
        for (int a = 13; a <= 15; a++) {
            for (int b = -15; b <= 15; b++) {
                IndirectSheet x = sheetWithErrors();
                x.formula(8, THROUGH, a, b);
                due("needs(8) of THROUGH " + a + " " + b, x.needs(8), bits(a));
            }
        }
    }

    static void needsOfAConstantIs0() {
        about = "10: 0 when it holds a constant";
        for (int v : FAR_CONSTANTS) {
            IndirectSheet x = sheetOfSums();
            x.put(0, v);
            x.put(15, v);
            due("needs(0) of " + v, x.needs(0), 0);
            due("needs(15) of " + v, x.needs(15), 0);
            due("needs(14)", x.needs(14), bits(3, 4, 5));
        }
    }

    static void needsOfNoCellIs0() {
        about = "10: 0 when cell is not 0 .. 15";
        IndirectSheet x = sheetOfSums();
        for (int cell : NO_CELLS) {
            due("needs(" + cell + ")", x.needs(cell), 0);
        }
    }

    /** In a new sheet, with the formula now in one cell and now in another: what it needs is the same. */
    private static void dueNeeds(int op, int a, int b, int want) {
        int[] cells = {1, 8, 14};
        for (int cell : cells) {
            IndirectSheet x = new IndirectSheet();
            x.formula(cell, op, a, b);
            due("needs(" + cell + ") of operation " + op + " " + a + " " + b, x.needs(cell), want);
        }
    }

    static void needsInTheFirstAndTheLastCell() {
        about = "10: the cells that a cell needs";
        for (int cell : ENDS) {
            IndirectSheet x = new IndirectSheet();
            x.formula(cell, ADD, 7, 8);
            due("needs(" + cell + ")", x.needs(cell), bits(7, 8));
        }
    }

    // Promise 11

    static void reachedOfACellThatNothingNeedsIs0() {
        about = "11: the cells that need the cell";
        IndirectSheet x = new IndirectSheet();
        x.formula(7, SUM, 3, 5);
        for (int cell = 0; cell < 16; cell++) {
            due("reached(" + cell + ")", x.reached(cell), cell >= 3 && cell <= 5 ? bits(7) : 0);
        }
    }

    static void reachedFromTheFirstCellToTheLastAndBack() {
        about = "11: the cells that need the cell";
        IndirectSheet x = new IndirectSheet();
        x.formula(15, ISERR, 0, 0);
        due("reached(0)", x.reached(0), bits(15));
        due("reached(15)", x.reached(15), 0);
        x.formula(15, LOST, 0, 0);
        x.formula(0, ISERR, 15, 0);
        due("reached(15)", x.reached(15), bits(0));
        due("reached(0)", x.reached(0), 0);
    }

    static void reachedAlongTheLongestChains() {
        about = "11: or need a cell that is among these, and so on";
        IndirectSheet up = new IndirectSheet();
        IndirectSheet down = new IndirectSheet();
        for (int cell = 0; cell < 15; cell++) {
            up.formula(cell + 1, ADD, cell, cell);
            down.formula(cell, ADD, cell + 1, cell + 1);
        }
        for (int cell = 0; cell < 16; cell++) {
            int above = ALL_CELLS & -(2 << cell);
            int below = (1 << cell) - 1;
            due("reached(" + cell + ") upwards", up.reached(cell), above);
            due("reached(" + cell + ") downwards", down.reached(cell), below);
        }
    }

    static void reachedOnARingIsTheCellItselfToo() {
        about = "11: or need a cell that is among these, and so on";
        IndirectSheet x = new IndirectSheet();
        x.formula(0, ADD, 15, 15);
        x.formula(15, ADD, 0, 0);
        x.formula(4, ADD, 0, 1);
        due("reached(0)", x.reached(0), bits(0, 4, 15));
        due("reached(15)", x.reached(15), bits(0, 4, 15));
        due("reached(4) beside the ring", x.reached(4), 0);
        due("reached(1)", x.reached(1), bits(4));
    }

    static void reachedOfACellThatNeedsItself() {
        about = "11: the cells that need the cell";
        for (int cell : ENDS) {
            IndirectSheet x = new IndirectSheet();
            x.formula(cell, ISERR, cell, 0);
            due("reached(" + cell + ")", x.reached(cell), bits(cell));
        }
    }

    static void reachedOfAll() {
        about = "11: the cells that need the cell";
        IndirectSheet x = sheetOfSums();
        for (int cell = 3; cell <= 5; cell++) {
            due("reached(" + cell + ")", x.reached(cell), ALL_CELLS);
        }
        due("reached(2)", x.reached(2), 0);
        due("reached(6)", x.reached(6), 0);
    }

    static void reachedThroughAValueAsFarAsItIsSettled() {
        about = "11: as far as that is settled";
        IndirectSheet x = new IndirectSheet();
        x.put(2, 15);
        x.formula(8, THROUGH, 2, 0);
        due("reached(15)", x.reached(15), bits(8));
        due("reached(0)", x.reached(0), 0);
        x.put(2, 0);
        due("reached(15)", x.reached(15), 0);
        due("reached(0)", x.reached(0), bits(8));
        x.put(2, -1);
        due("reached(0) when the sum is no cell", x.reached(0), 0);
        x.put(2, 16);
        due("reached(15) when the sum is no cell", x.reached(15), 0);
        due("reached(2)", x.reached(2), bits(8));
        x.formula(2, LOST, 0, 0);
        due("reached(0) when a is an error", x.reached(0), 0);
        due("reached(2)", x.reached(2), bits(8));
        x.formula(2, ADD, 2, 2);
        due("reached(0) when a is CIRCULAR", x.reached(0), 0);
        due("reached(2)", x.reached(2), bits(2, 8));
    }

    static void reachedEndsAtAConstant() {
        about = "11: the cells that need the cell";
        IndirectSheet x = new IndirectSheet();
        x.formula(1, ADD, 0, 0);
        x.formula(2, ADD, 1, 1);
        due("reached(0)", x.reached(0), bits(1, 2));
        x.put(1, 0);
        due("reached(0)", x.reached(0), 0);
        due("reached(1)", x.reached(1), bits(2));
    }

    static void reachedOfNoCellIs0() {
        about = "11: 0 when cell is not 0 .. 15";
        IndirectSheet x = new IndirectSheet();
        for (int cell = 0; cell < 16; cell++) {
            x.formula(cell, SUM, 0, 15);
        }
        for (int cell : NO_CELLS) {
            due("reached(" + cell + ")", x.reached(cell), 0);
        }
    }

    // Promise 12

    static void changedIs0WhenThereWasNoneYet() {
        about = "12: 0 when there was none yet";
        IndirectSheet x = new IndirectSheet();
        due("changed() of a new object", x.changed(), 0);
        x.put(-1, 5);
        x.put(16, 5);
        x.formula(0, 9, 0, 0);
        x.copy(0, 16);
        due("changed() after refused calls alone", x.changed(), 0);
    }

    static void changedOfEachCellAlone() {
        about = "12: bit i for cell i";
        for (int cell = 0; cell < 16; cell++) {
            IndirectSheet x = new IndirectSheet();
            x.put(cell, LEAST);
            due("changed()", x.changed(), 1 << cell);
        }
    }

    static void changedOfAll() {
        about = "12: the cells whose state or value the last put, formula or copy made different";
        IndirectSheet x = new IndirectSheet();
        for (int cell = 1; cell < 16; cell++) {
            x.formula(cell, ADD, 0, cell - 1);
        }
        x.put(0, 1);
        due("changed() in value", x.changed(), ALL_CELLS);
        x.formula(0, LOST, 0, 0);
        due("changed() in state", x.changed(), ALL_CELLS);
        x.formula(0, ADD, 15, 15);
        due("changed() to CIRCULAR", x.changed(), ALL_CELLS);
        x.put(0, 0);
        due("changed() from CIRCULAR to 0", x.changed(), ALL_CELLS);
    }

    static void changedIs0AfterACallThatMadeNothingDifferent() {
        about = "12: the last put, formula or copy that answered true";
        IndirectSheet x = new IndirectSheet();
        x.put(3, 6);
        x.put(3, 6);
        due("changed() by the same put", x.changed(), 0);
        x.put(3, 7);
        x.formula(4, SUB, 3, 3);
        due("changed() by a formula that is 0 where 0 was", x.changed(), 0);
        x.put(3, 8);
        x.copy(3, 3);
        due("changed() by a copy to the cell itself", x.changed(), 0);
        x.put(3, 9);
        x.copy(4, 5);
        due("changed() by a copy that is 0 where 0 was", x.changed(), 0);
    }

    static void changedStaysAfterARefusedPut() {
        about = "12: the last put, formula or copy that answered true";
        for (int cell : NO_CELLS) {
            IndirectSheet x = new IndirectSheet();
            x.put(6, 1);
            due("put(" + cell + ", 1)", x.put(cell, 1), false);
            due("changed()", x.changed(), bits(6));
        }
    }

    static void changedStaysAfterARefusedFormula() {
        about = "12: the last put, formula or copy that answered true";
        int[][] rows = {{-1, 0, 0, 0}, {16, 0, 0, 0}, {6, -1, 0, 0}, {6, 9, 0, 0}, {6, 0, -1, 0}, {6, 0, 16, 0},
            {6, 0, 0, -1}, {6, 0, 0, 16}, {6, THROUGH, 0, -16}, {6, THROUGH, 0, 16}};
        for (int[] row : rows) {
            IndirectSheet x = new IndirectSheet();
            x.put(6, 1);
            due("formula", x.formula(row[0], row[1], row[2], row[3]), false);
            due("changed()", x.changed(), bits(6));
        }
    }

    static void changedStaysAfterARefusedCopy() {
        about = "12: the last put, formula or copy that answered true";
        for (int bad : NO_CELLS) {
            IndirectSheet x = new IndirectSheet();
            x.put(6, 1);
            due("copy(6, " + bad + ")", x.copy(6, bad), false);
            due("copy(" + bad + ", 6)", x.copy(bad, 6), false);
            due("changed()", x.changed(), bits(6));
        }
    }

    static void changedFromEachStateToEachOther() {
        about = "12: a cell that is no NUMBER has no value to differ in";
        for (int before = NUMBER; before <= CIRCULAR; before++) {
            for (int after = NUMBER; after <= CIRCULAR; after++) {
                IndirectSheet x = new IndirectSheet();
                bringTo(x, before, 7);
                bringTo(x, after, 8);
                theCase = "from state " + before + " to " + after + ", ";
                due("changed()", x.changed(), before == after ? 0 : bits(1));
            }
        }
    }

    /** Brings cell 1 to a state (NUMBER with the value 0) by a formula that differs with the operand, if it has any. */
    private static void bringTo(IndirectSheet x, int state, int operand) {
        int[] operations = {ADD, DIV, LOST, SUM};
        x.formula(1, operations[state], operand, 0);
        due("state(1)", x.state(1), state);
    }

    static void changedFromAnErrorInheritedToTheSameOfItsOwn() {
        about = "12: a cell that is no NUMBER has no value to differ in";
        IndirectSheet x = new IndirectSheet();
        x.formula(0, LOST, 0, 0);
        x.formula(1, ADD, 0, 0);
        x.formula(1, LOST, 0, 0);
        due("changed()", x.changed(), 0);
        x.put(0, 4);
        due("changed()", x.changed(), bits(0));
    }

    static void changedBetweenTheFarthestValues() {
        about = "12: the cells whose value is different";
        int[][] rows = {{LEAST, GREATEST}, {-1, 0}, {0, LEAST}, {65536, 0}, {1, 257}, {-1, GREATEST}};
        for (int[] row : rows) {
            IndirectSheet x = new IndirectSheet();
            x.put(0, row[0]);
            x.put(0, row[1]);
            due("changed() from " + row[0] + " to " + row[1], x.changed(), bits(0));
        }
    }

    static void changedByACopyThatIsLost() {
        about = "12: the last put, formula or copy that answered true";
        IndirectSheet x = new IndirectSheet();
        x.formula(8, ADD, 0, 0);
        x.formula(9, ISERR, 7, 0);
        x.copy(8, 7);
        due("changed()", x.changed(), bits(7, 9));
        x.copy(8, 7);
        due("changed() by the same copy", x.changed(), 0);
    }

    // Promise 13

    static void countOfNumberFromAllToNone() {
        about = "13: the number of cells with this state";
        IndirectSheet x = new IndirectSheet();
        due("count(NUMBER)", x.count(NUMBER), 16);
        for (int cell = 0; cell < 16; cell++) {
            x.formula(cell, LOST, 0, 0);
            due("count(NUMBER)", x.count(NUMBER), 15 - cell);
            due("count(REF_ERROR)", x.count(REF_ERROR), cell + 1);
        }
    }

    static void countOfDivErrorFromNoneToTheMost() {
        about = "13: the number of cells with this state";
        IndirectSheet x = new IndirectSheet();
        due("count(DIV_ERROR)", x.count(DIV_ERROR), 0);
        // one cell must stay the 0 that the others divide by
        for (int cell = 1; cell < 16; cell++) {
            x.formula(cell, DIV, 0, 0);
            due("count(DIV_ERROR)", x.count(DIV_ERROR), cell);
        }
        due("count(NUMBER)", x.count(NUMBER), 1);
    }

    static void countOfCircularFromNoneToAll() {
        about = "13: the number of cells with this state";
        IndirectSheet x = new IndirectSheet();
        due("count(CIRCULAR)", x.count(CIRCULAR), 0);
        for (int cell = 0; cell < 16; cell++) {
            x.formula(cell, ADD, cell, cell);
            due("count(CIRCULAR)", x.count(CIRCULAR), cell + 1);
        }
        due("count(NUMBER)", x.count(NUMBER), 0);
    }

    static void countOfTheFirstAndTheLastStateAndNoneBeside() {
        about = "13: 0 for any other number than 0 .. 3";
        IndirectSheet x = busySheet();
        due("count(0)", x.count(0), 11);
        due("count(1)", x.count(1), 1);
        due("count(2)", x.count(2), 2);
        due("count(3)", x.count(3), 2);
        int[] noStates = {-1, 4, 5, 16, LEAST, GREATEST};
        for (int none : noStates) {
            due("count(" + none + ")", x.count(none), 0);
        }
    }
}
