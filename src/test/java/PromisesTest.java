/** The promises of the document one by one: ordinary inputs, the edges that it names, and wrong inputs. */
public final class PromisesTest extends Checks {
    public static void main(String[] args) {
        runAll(PromisesTest.class);
    }

    static void constants() {
        about = "constants";
        due("NUMBER", IndirectSheet.NUMBER, 0);
        due("DIV_ERROR", IndirectSheet.DIV_ERROR, 1);
        due("REF_ERROR", IndirectSheet.REF_ERROR, 2);
        due("CIRCULAR", IndirectSheet.CIRCULAR, 3);
        due("NONE", IndirectSheet.NONE, -1);
    }

    static void newObject() {
        about = "promise 1, a new object";
        IndirectSheet x = new IndirectSheet();
        for (int cell = 0; cell < 16; cell++) {
            dueConstant(x, cell, 0);
            due("needs(" + cell + ")", x.needs(cell), 0);
            due("reached(" + cell + ")", x.reached(cell), 0);
        }
        due("circular()", x.circular(), 0);
        due("changed()", x.changed(), 0);
        due("count(0)", x.count(NUMBER), 16);
    }

    static void put() {
        about = "promise 2, put";
        int[] constants = {0, 1, -1, 7, LEAST, GREATEST};
        IndirectSheet x = new IndirectSheet();
        for (int v : constants) {
            for (int cell = 0; cell < 16; cell += 5) {
                due("put(" + cell + ", " + v + ")", x.put(cell, v), true);
                dueConstant(x, cell, v);
            }
        }
        x.formula(5, LOST, 0, 0);
        due("put(5, 9) over a formula", x.put(5, 9), true);
        dueConstant(x, 5, 9);
        for (int cell : NO_CELLS) {
            due("put(" + cell + ", 3)", x.put(cell, 3), false);
        }
        dueConstant(x, 0, GREATEST);
        dueConstant(x, 1, 0);
        dueConstant(x, 15, GREATEST);
    }

    static void formulaAccepts() {
        about = "promise 3, formula that is taken";
        IndirectSheet x = new IndirectSheet();
        for (int op : TWO_CELLS) {
            due("formula(1, " + op + ", 0, 15)", x.formula(1, op, 0, 15), true);
            dueFormula(x, 1, op, 0, 15);
            due("formula(1, " + op + ", 15, 0)", x.formula(1, op, 15, 0), true);
            dueFormula(x, 1, op, 15, 0);
        }
        due("formula(0, THROUGH, 15, -15)", x.formula(0, THROUGH, 15, -15), true);
        dueFormula(x, 0, THROUGH, 15, -15);
        due("formula(15, THROUGH, 0, 15)", x.formula(15, THROUGH, 0, 15), true);
        dueFormula(x, 15, THROUGH, 0, 15);
        due("formula(2, ISERR, 15, 16)", x.formula(2, ISERR, 15, 16), true);
        dueFormula(x, 2, ISERR, 15, 0);
        due("formula(2, ISERR, 0, LEAST)", x.formula(2, ISERR, 0, LEAST), true);
        dueFormula(x, 2, ISERR, 0, 0);
        due("formula(3, LOST, -1, GREATEST)", x.formula(3, LOST, -1, GREATEST), true);
        dueFormula(x, 3, LOST, 0, 0);
        due("formula(3, LOST, 5, 6)", x.formula(3, LOST, 5, 6), true);
        dueFormula(x, 3, LOST, 0, 0);
    }

    static void formulaRefuses() {
        about = "promise 3, formula that is refused";
        IndirectSheet x = new IndirectSheet();
        x.put(4, 44);
        for (int bad : NO_CELLS) {
            for (int op = ADD; op <= LOST; op++) {
                due("formula(" + bad + ", " + op + ", 1, 1)", x.formula(bad, op, 1, 1), false);
                if (op != LOST) {
                    due("formula(4, " + op + ", " + bad + ", 1)", x.formula(4, op, bad, 1), false);
                }
                if (op != LOST && op != ISERR && !(op == THROUGH && bad == -1)) {
                    due("formula(4, " + op + ", 1, " + bad + ")", x.formula(4, op, 1, bad), false);
                }
            }
        }
        due("formula(4, THROUGH, 1, -16)", x.formula(4, THROUGH, 1, -16), false);
        int[] noOperations = {-1, 9, 10, LEAST, GREATEST};
        for (int op : noOperations) {
            due("formula(4, " + op + ", 1, 1)", x.formula(4, op, 1, 1), false);
        }
        dueConstant(x, 4, 44);
        due("count(0)", x.count(NUMBER), 16);
    }

    static void arithmetic() {
        about = "terms, ADD SUB MUL";
        int[][] rows = {
            // value of a, value of b, ADD, SUB, MUL
            {7, 3, 10, 4, 21},
            {-7, 3, -4, -10, -21},
            {GREATEST, 1, LEAST, GREATEST - 1, GREATEST},
            {LEAST, 1, LEAST + 1, GREATEST, LEAST},
            {LEAST, -1, GREATEST, LEAST + 1, LEAST},
            {GREATEST, GREATEST, -2, 0, 1},
            {65536, 65536, 131072, 0, 0},
        };
        for (int[] row : rows) {
            IndirectSheet x = new IndirectSheet();
            x.put(9, row[0]);
            x.put(2, row[1]);
            x.formula(3, ADD, 9, 2);
            x.formula(4, SUB, 9, 2);
            x.formula(5, MUL, 9, 2);
            dueNumber(x, 3, row[2]);
            dueNumber(x, 4, row[3]);
            dueNumber(x, 5, row[4]);
        }
        IndirectSheet x = new IndirectSheet();
        x.put(1, 6);
        x.formula(0, MUL, 1, 1);
        dueNumber(x, 0, 36);
    }

    static void division() {
        about = "terms, DIV";
        int[][] rows = {
            {7, 2, 3}, {-7, 2, -3}, {7, -2, -3}, {-7, -2, 3}, {0, 5, 0}, {1, 2, 0},
            {LEAST, -1, LEAST}, {LEAST, 1, LEAST}, {GREATEST, -1, -GREATEST},
        };
        IndirectSheet x = new IndirectSheet();
        x.formula(2, DIV, 0, 1);
        dueOther(x, 2, DIV_ERROR);
        for (int[] row : rows) {
            x.put(0, row[0]);
            x.put(1, row[1]);
            dueNumber(x, 2, row[2]);
        }
        x.put(1, 0);
        dueOther(x, 2, DIV_ERROR);
    }

    static void through() {
        about = "terms, THROUGH";
        IndirectSheet x = new IndirectSheet();
        for (int cell = 2; cell < 16; cell++) {
            x.put(cell, 100 + cell);
        }
        x.put(0, 5);
        x.formula(1, THROUGH, 0, 0);
        dueNumber(x, 1, 105);
        x.formula(1, THROUGH, 0, 10);
        dueNumber(x, 1, 115);
        x.formula(1, THROUGH, 0, 11);
        dueOther(x, 1, REF_ERROR);
        x.formula(1, THROUGH, 0, -5);
        dueNumber(x, 1, 5);
        x.formula(1, THROUGH, 0, -6);
        dueOther(x, 1, REF_ERROR);
        x.formula(1, THROUGH, 0, -4);
        dueOther(x, 1, CIRCULAR);
        x.put(0, 30);
        x.formula(1, THROUGH, 0, -15);
        dueNumber(x, 1, 115);
        x.put(0, -15);
        x.formula(1, THROUGH, 0, 15);
        dueNumber(x, 1, -15);

        x = sheetWithErrors();
        x.put(0, 14);
        x.formula(1, THROUGH, 0, 0);
        dueOther(x, 1, DIV_ERROR);
        x.put(0, 15);
        dueOther(x, 1, REF_ERROR);
        x.put(0, 13);
        dueOther(x, 1, CIRCULAR);
        x.formula(1, THROUGH, 14, 0);
        dueOther(x, 1, DIV_ERROR);
        x.formula(1, THROUGH, 15, 0);
        dueOther(x, 1, REF_ERROR);
        x.formula(1, THROUGH, 13, 0);
        dueOther(x, 1, CIRCULAR);

        x = new IndirectSheet();
        x.formula(0, THROUGH, 1, 1);
        x.formula(1, THROUGH, 2, 2);
        x.formula(2, THROUGH, 3, 4);
        x.put(4, 8);
        x.put(10, 9);
        dueNumber(x, 2, 8);
        dueNumber(x, 1, 9);
        dueNumber(x, 0, 9);
    }

    static void throughDoesNotWrap() {
        about = "terms, THROUGH takes the sum as a whole number";
        IndirectSheet x = new IndirectSheet();
        x.formula(1, THROUGH, 0, 15);
        x.put(0, GREATEST);
        dueOther(x, 1, REF_ERROR);
        x.put(0, LEAST);
        dueOther(x, 1, REF_ERROR);
        x.formula(1, THROUGH, 0, -15);
        dueOther(x, 1, REF_ERROR);
        due("needs(1)", x.needs(1), bits(0));
        x.put(0, GREATEST);
        dueOther(x, 1, REF_ERROR);
        // these would be cells if the sum were cut to fewer bits
        x.put(0, 256);
        x.formula(1, THROUGH, 0, 0);
        dueOther(x, 1, REF_ERROR);
        x.put(0, 65536);
        dueOther(x, 1, REF_ERROR);
    }

    static void sum() {
        about = "terms, SUM";
        IndirectSheet x = new IndirectSheet();
        for (int cell = 0; cell < 15; cell++) {
            x.put(cell, 1 << cell);
        }
        x.formula(15, SUM, 3, 6);
        dueNumber(x, 15, 8 + 16 + 32 + 64);
        x.formula(15, SUM, 6, 3);
        dueNumber(x, 15, 8 + 16 + 32 + 64);
        x.formula(15, SUM, 4, 4);
        dueNumber(x, 15, 16);
        x.formula(15, SUM, 0, 14);
        dueNumber(x, 15, 32767);
        x.formula(15, SUM, 15, 0);
        dueOther(x, 15, CIRCULAR);
        x.put(15, 1 << 15);
        x.formula(0, SUM, 1, 15);
        dueNumber(x, 0, 65534);
        x.put(1, GREATEST);
        x.put(2, GREATEST);
        x.formula(0, SUM, 1, 2);
        dueNumber(x, 0, -2);
    }

    static void isErr() {
        about = "terms, ISERR";
        IndirectSheet x = sheetWithErrors();
        x.put(1, 5);
        x.formula(2, ISERR, 14, 0);
        dueNumber(x, 2, 1);
        x.formula(2, ISERR, 15, 0);
        dueNumber(x, 2, 1);
        x.formula(2, ISERR, 1, 0);
        dueNumber(x, 2, 0);
        x.formula(2, ISERR, 13, 0);
        dueOther(x, 2, CIRCULAR);
        x.formula(2, ISERR, 2, 0);
        dueOther(x, 2, CIRCULAR);
        // b counts as 0, and isn't the cell 0
        x.formula(0, LOST, 0, 0);
        x.formula(2, ISERR, 1, 0);
        dueNumber(x, 2, 0);
        x.formula(0, ISERR, 1, 0);
        dueNumber(x, 0, 0);
    }

    static void when() {
        about = "terms, WHEN";
        IndirectSheet x = sheetWithErrors();
        x.put(1, 42);
        x.formula(2, WHEN, 0, 1);
        dueNumber(x, 2, 0);
        int[] conditions = {1, -1, 2, LEAST};
        for (int condition : conditions) {
            x.put(0, condition);
            dueNumber(x, 2, 42);
        }
        x.put(0, 0);
        x.formula(2, WHEN, 0, 14);
        dueOther(x, 2, DIV_ERROR);
        x.formula(2, WHEN, 0, 15);
        dueOther(x, 2, REF_ERROR);
        x.formula(2, WHEN, 0, 13);
        dueOther(x, 2, CIRCULAR);
        x.formula(2, WHEN, 0, 2);
        dueOther(x, 2, CIRCULAR);
    }

    static void errorsInOrder() {
        about = "terms, errors";
        for (int op : A_AND_B) {
            IndirectSheet x = sheetWithErrors();
            x.put(0, 1);
            int[][] rows = {
                {14, 15, DIV_ERROR}, {15, 14, REF_ERROR}, {0, 14, DIV_ERROR}, {0, 15, REF_ERROR},
                {14, 0, DIV_ERROR}, {15, 0, REF_ERROR}, {15, 1, REF_ERROR}, {1, 15, REF_ERROR}, {1, 14, DIV_ERROR},
            };
            for (int[] row : rows) {
                x.formula(2, op, row[0], row[1]);
                due("state after formula(2, " + op + ", " + row[0] + ", " + row[1] + ")", x.state(2), row[2]);
                due("value", x.value(2), 0);
            }
        }
        IndirectSheet x = sheetWithErrors();
        x.formula(0, SUM, 14, 15);
        dueOther(x, 0, DIV_ERROR);
        x.formula(0, SUM, 15, 14);
        dueOther(x, 0, DIV_ERROR);
        x.formula(3, LOST, 0, 0);
        x.formula(5, DIV, 1, 1);
        x.formula(0, SUM, 6, 2);
        dueOther(x, 0, REF_ERROR);
        x.formula(0, SUM, 6, 4);
        dueOther(x, 0, DIV_ERROR);
        // cell 0 is a cell like any other
        x = new IndirectSheet();
        x.formula(0, DIV, 1, 1);
        x.formula(2, SUM, 1, 0);
        x.formula(3, ADD, 1, 0);
        x.formula(4, THROUGH, 1, 0);
        dueOther(x, 2, DIV_ERROR);
        dueOther(x, 3, DIV_ERROR);
        dueOther(x, 4, DIV_ERROR);
        // passed on along a chain
        x.formula(5, DIV, 1, 1);
        x.formula(15, LOST, 0, 0);
        x.formula(6, ADD, 5, 1);
        x.formula(7, THROUGH, 6, 3);
        x.formula(8, WHEN, 7, 15);
        dueOther(x, 8, DIV_ERROR);
    }

    static void strictBeforeErrors() {
        about = "terms, a needed cell that is CIRCULAR outdoes an error";
        for (int op : TWO_CELLS) {
            IndirectSheet x = sheetWithErrors();
            x.formula(2, op, 14, 13);
            dueOther(x, 2, CIRCULAR);
            x.formula(2, op, 13, 15);
            dueOther(x, 2, CIRCULAR);
        }
    }

    static void copyConstantsAndFormulas() {
        about = "promise 4, copy";
        IndirectSheet x = new IndirectSheet();
        x.put(3, LEAST);
        due("copy(3, 9)", x.copy(3, 9), true);
        dueConstant(x, 9, LEAST);
        x.put(3, 14);
        due("copy(3, 15)", x.copy(3, 15), true);
        dueConstant(x, 15, 14);
        for (int op : TWO_CELLS) {
            x.formula(7, op, 4, 6);
            due("copy(7, 15)", x.copy(7, 15), true);
            dueFormula(x, 15, op, 12, 14);
            due("copy(7, 3)", x.copy(7, 3), true);
            dueFormula(x, 3, op, 0, 2);
            dueFormula(x, 7, op, 4, 6);
            due("copy(7, 7)", x.copy(7, 7), true);
            dueFormula(x, 7, op, 4, 6);
        }
        x.put(2, 20);
        x.put(12, 6);
        x.formula(0, ADD, 2, 2);
        x.copy(0, 10);
        dueNumber(x, 10, 12);
        x.copy(12, 0);
        dueConstant(x, 0, 6);
        x.formula(9, SUM, 9, 8);
        x.copy(9, 1);
        dueFormula(x, 1, SUM, 1, 0);
    }

    static void copyKeepsWhatIsNoCell() {
        about = "promise 4, copy of numbers that are no cells";
        IndirectSheet x = new IndirectSheet();
        x.formula(0, THROUGH, 1, 15);
        x.copy(0, 14);
        dueFormula(x, 14, THROUGH, 15, 15);
        x.formula(15, THROUGH, 15, -15);
        x.copy(15, 0);
        dueFormula(x, 0, THROUGH, 0, -15);
        x.formula(8, ISERR, 8, 3);
        x.copy(8, 0);
        dueFormula(x, 0, ISERR, 0, 0);
        x.copy(8, 15);
        dueFormula(x, 15, ISERR, 15, 0);
        x.formula(8, LOST, 3, 3);
        x.copy(8, 0);
        dueFormula(x, 0, LOST, 0, 0);
        x.copy(8, 15);
        dueFormula(x, 15, LOST, 0, 0);
        dueOther(x, 15, REF_ERROR);
    }

    static void copyLoses() {
        about = "promise 4, copy that loses a cell";
        for (int op : TWO_CELLS) {
            IndirectSheet x = new IndirectSheet();
            int[][] rows = {{3, 9, 4}, {9, 3, 4}, {12, 9, 12}, {9, 12, 12}};
            for (int[] row : rows) {
                x.formula(8, op, row[0], row[1]);
                due("copy(8, " + row[2] + ")", x.copy(8, row[2]), true);
                dueFormula(x, row[2], LOST, 0, 0);
                dueOther(x, row[2], REF_ERROR);
                dueFormula(x, 8, op, row[0], row[1]);
            }
        }
        IndirectSheet x = new IndirectSheet();
        x.formula(8, THROUGH, 0, 5);
        due("copy(8, 7)", x.copy(8, 7), true);
        dueFormula(x, 7, LOST, 0, 0);
        x.formula(8, ISERR, 15, 0);
        due("copy(8, 9)", x.copy(8, 9), true);
        dueFormula(x, 9, LOST, 0, 0);
    }

    static void copyRefuses() {
        about = "promise 4, copy that is refused";
        IndirectSheet x = new IndirectSheet();
        x.put(0, 3);
        x.formula(15, ADD, 0, 0);
        for (int bad : NO_CELLS) {
            due("copy(" + bad + ", 0)", x.copy(bad, 0), false);
            due("copy(0, " + bad + ")", x.copy(0, bad), false);
            due("copy(15, " + bad + ")", x.copy(15, bad), false);
            due("copy(" + bad + ", " + bad + ")", x.copy(bad, bad), false);
        }
        dueConstant(x, 0, 3);
        dueFormula(x, 15, ADD, 0, 0);
        dueNumber(x, 15, 6);
    }

    static void operation() {
        about = "promise 5, operation";
        IndirectSheet x = new IndirectSheet();
        for (int op = ADD; op <= LOST; op++) {
            x.formula(15, op, 1, 2);
            due("operation(15)", x.operation(15), op);
        }
        x.put(15, 4);
        due("operation(15)", x.operation(15), NONE);
        for (int bad : NO_CELLS) {
            due("operation(" + bad + ")", x.operation(bad), NONE);
        }
    }

    static void operand() {
        about = "promise 6, operand";
        IndirectSheet x = new IndirectSheet();
        x.formula(4, SUM, 9, 2);
        due("operand(4, 0)", x.operand(4, 0), 9);
        due("operand(4, 1)", x.operand(4, 1), 2);
        int[] noWhich = {-1, 2, 3, LEAST, GREATEST};
        for (int which : noWhich) {
            due("operand(4, " + which + ")", x.operand(4, which), NONE);
        }
        for (int bad : NO_CELLS) {
            due("operand(" + bad + ", 0)", x.operand(bad, 0), NONE);
            due("operand(" + bad + ", 1)", x.operand(bad, 1), NONE);
        }
        x.formula(4, THROUGH, 3, -7);
        due("operand(4, 1)", x.operand(4, 1), -7);
        x.formula(4, ISERR, 3, 7);
        due("operand(4, 1)", x.operand(4, 1), 0);
        x.formula(4, LOST, 3, 7);
        due("operand(4, 0)", x.operand(4, 0), 0);
        due("operand(4, 1)", x.operand(4, 1), 0);
        x.put(4, 5);
        due("operand(4, 0)", x.operand(4, 0), NONE);
        due("operand(4, 1)", x.operand(4, 1), NONE);
    }

    static void state() {
        about = "promise 7, state";
        IndirectSheet x = sheetWithErrors();
        due("state(0)", x.state(0), NUMBER);
        due("state(13)", x.state(13), CIRCULAR);
        due("state(14)", x.state(14), DIV_ERROR);
        due("state(15)", x.state(15), REF_ERROR);
        for (int bad : NO_CELLS) {
            due("state(" + bad + ")", x.state(bad), NONE);
        }
    }

    static void value() {
        about = "promise 8, value";
        IndirectSheet x = sheetWithErrors();
        for (int cell = 13; cell < 16; cell++) {
            due("value(" + cell + ")", x.value(cell), 0);
        }
        x.put(3, 9);
        x.formula(2, ADD, 3, 3);
        due("value(2)", x.value(2), 18);
        int[] breaking = {13, 14, 15};
        for (int cell : breaking) {
            x.formula(2, ADD, 3, cell);
            due("value(2) once it is no NUMBER", x.value(2), 0);
            x.formula(2, ADD, 3, 3);
        }
        x.put(0, 8);
        x.put(15, 8);
        for (int bad : NO_CELLS) {
            due("value(" + bad + ")", x.value(bad), 0);
        }
    }

    static void circular() {
        about = "promise 9, circular";
        IndirectSheet x = new IndirectSheet();
        for (int cell = 0; cell < 15; cell++) {
            x.formula(cell, ADD, cell + 1, cell + 1);
        }
        due("circular() of a chain", x.circular(), 0);
        x.put(15, 1);
        dueNumber(x, 0, 32768);
        x.formula(15, ISERR, 0, 0);
        due("circular() of a ring", x.circular(), 65535);
        x.formula(15, LOST, 0, 0);
        due("circular() of a chain of formulas alone", x.circular(), 0);
        due("count(REF_ERROR)", x.count(REF_ERROR), 16);
        x.formula(15, ISERR, 0, 0);
        x.put(7, 1);
        due("circular() of the broken ring", x.circular(), 0);

        x = new IndirectSheet();
        for (int cell = 1; cell < 16; cell++) {
            x.formula(cell, ADD, cell - 1, cell - 1);
        }
        x.put(0, 1);
        dueNumber(x, 15, 32768);
        x.formula(0, ADD, 0, 1);
        due("circular()", x.circular(), 65535);

        x = new IndirectSheet();
        x.formula(0, THROUGH, 0, 0);
        x.formula(15, SUM, 0, 3);
        due("circular()", x.circular(), bits(0, 15));
        x.put(0, 0);
        due("circular()", x.circular(), 0);
    }

    static void needs() {
        about = "promise 10, needs";
        IndirectSheet x = sheetWithErrors();
        for (int op : A_AND_B) {
            x.formula(1, op, 9, 4);
            due("needs(1)", x.needs(1), bits(4, 9));
            x.formula(1, op, 1, 15);
            due("needs(1)", x.needs(1), bits(1, 15));
            x.formula(1, op, 3, 3);
            due("needs(1)", x.needs(1), bits(3));
        }
        x.formula(1, SUM, 6, 3);
        due("needs(1)", x.needs(1), bits(3, 4, 5, 6));
        x.formula(1, SUM, 0, 15);
        due("needs(1)", x.needs(1), 65535);
        x.formula(1, SUM, 15, 15);
        due("needs(1)", x.needs(1), bits(15));
        x.formula(1, ISERR, 9, 4);
        due("needs(1)", x.needs(1), bits(9));
        x.formula(1, LOST, 9, 4);
        due("needs(1)", x.needs(1), 0);
        x.put(1, 9);
        due("needs(1)", x.needs(1), 0);
        x.put(5, 8);
        int[][] rows = {
            {5, 0, bits(5, 8)}, {5, 7, bits(5, 15)}, {5, 8, bits(5)}, {5, -8, bits(5, 0)}, {5, -9, bits(5)},
            {5, -3, bits(5)}, {5, -7, bits(5, 1)}, {5, 5, bits(5, 13)}, {5, 6, bits(5, 14)},
            {13, 2, bits(13)}, {14, 2, bits(14)}, {15, 2, bits(15)}, {1, 2, bits(1)},
        };
        for (int[] row : rows) {
            x.formula(1, THROUGH, row[0], row[1]);
            due("needs(1) of THROUGH " + row[0] + " " + row[1], x.needs(1), row[2]);
        }
        for (int bad : NO_CELLS) {
            due("needs(" + bad + ")", x.needs(bad), 0);
        }
    }

    static void reached() {
        about = "promise 11, reached";
        IndirectSheet x = new IndirectSheet();
        x.formula(1, ADD, 0, 0);
        x.formula(9, ISERR, 1, 0);
        x.formula(4, SUM, 10, 8);
        due("reached(0)", x.reached(0), bits(1, 9, 4));
        due("reached(1)", x.reached(1), bits(9, 4));
        due("reached(9)", x.reached(9), bits(4));
        due("reached(10)", x.reached(10), bits(4));
        due("reached(4)", x.reached(4), 0);
        due("reached(11)", x.reached(11), 0);
        x.formula(0, WHEN, 4, 4);
        due("reached(0) on a ring", x.reached(0), bits(0, 1, 4, 9));
        due("reached(8) beside a ring", x.reached(8), bits(0, 1, 4, 9));
        x.formula(8, MUL, 8, 8);
        due("reached(8) that needs itself", x.reached(8), bits(8, 0, 1, 4, 9));

        x = new IndirectSheet();
        x.put(0, 6);
        x.formula(1, THROUGH, 0, 1);
        due("reached(0)", x.reached(0), bits(1));
        due("reached(7)", x.reached(7), bits(1));
        due("reached(6)", x.reached(6), 0);
        x.formula(0, LOST, 0, 0);
        due("reached(0)", x.reached(0), bits(1));
        due("reached(7)", x.reached(7), 0);

        for (int from = 0; from < 2; from++) {
            x = new IndirectSheet();
            for (int cell = 0; cell < 15; cell++) {
                x.formula(cell + 1 - from, ISERR, cell + from, 0);
            }
            due("reached along a chain", x.reached(15 * from), from == 0 ? 65534 : 32767);
        }
        x.formula(15, ISERR, 0, 0);
        for (int cell = 0; cell < 16; cell++) {
            due("reached(" + cell + ") round the whole ring", x.reached(cell), 65535);
        }
        for (int bad : NO_CELLS) {
            due("reached(" + bad + ")", x.reached(bad), 0);
        }
    }

    static void changed() {
        about = "promise 12, changed";
        IndirectSheet x = new IndirectSheet();
        x.put(3, 0);
        due("changed() when nothing differs", x.changed(), 0);
        x.put(3, 5);
        due("changed()", x.changed(), bits(3));
        due("changed() asked again", x.changed(), bits(3));
        x.formula(1, ADD, 3, 3);
        due("changed()", x.changed(), bits(1));
        x.formula(2, ISERR, 3, 0);
        due("changed() by a formula with the value that was", x.changed(), 0);
        x.put(3, 6);
        due("changed()", x.changed(), bits(1, 3));
        x.put(1, 12);
        due("changed() by a constant with the value that was", x.changed(), 0);
        x.formula(4, DIV, 3, 0);
        due("changed() from NUMBER 0 to an error", x.changed(), bits(4));
        x.formula(4, DIV, 1, 0);
        due("changed() from an error to the same", x.changed(), 0);
        x.formula(4, LOST, 0, 0);
        due("changed() from an error to another", x.changed(), bits(4));
        x.formula(4, SUB, 4, 4);
        due("changed() from an error to CIRCULAR", x.changed(), bits(4));
        x.formula(4, SUM, 0, 4);
        due("changed() from CIRCULAR to the same", x.changed(), 0);
        x.put(4, 0);
        due("changed() from CIRCULAR to NUMBER 0", x.changed(), bits(4));
        x.copy(3, 5);
        due("changed() by copy", x.changed(), bits(5));
        x.copy(3, 5);
        due("changed() by the same copy", x.changed(), 0);
        x.put(15, 5);
        due("changed()", x.changed(), bits(15));
        x.put(15, 5);
        due("changed() by the same put", x.changed(), 0);
        x = new IndirectSheet();
        for (int cell = 1; cell < 16; cell++) {
            x.formula(cell, ADD, 0, 0);
        }
        x.put(0, 5);
        due("changed() of all cells", x.changed(), 65535);
    }

    static void changedKeepsOnRefusal() {
        about = "promise 12, changed after calls that answer false";
        IndirectSheet x = new IndirectSheet();
        x.put(16, 1);
        due("changed()", x.changed(), 0);
        x.put(6, 1);
        x.put(16, 1);
        due("changed()", x.changed(), bits(6));
        x.formula(6, 9, 0, 0);
        due("changed()", x.changed(), bits(6));
        x.copy(6, -1);
        due("changed()", x.changed(), bits(6));
    }

    static void count() {
        about = "promise 13, count";
        IndirectSheet x = sheetWithErrors();
        x.formula(0, ADD, 15, 15);
        x.formula(1, ADD, 13, 14);
        x.formula(2, ADD, 13, 15);
        x.formula(3, ADD, 0, 12);
        due("count(NUMBER)", x.count(NUMBER), 9);
        due("count(DIV_ERROR)", x.count(DIV_ERROR), 1);
        due("count(REF_ERROR)", x.count(REF_ERROR), 3);
        due("count(CIRCULAR)", x.count(CIRCULAR), 3);
        int[] noStates = {-1, 4, 5, 16, LEAST, GREATEST};
        for (int none : noStates) {
            due("count(" + none + ")", x.count(none), 0);
        }
    }

    static void objectsAreApart() {
        about = "two objects";
        IndirectSheet x = new IndirectSheet();
        IndirectSheet y = new IndirectSheet();
        x.put(0, 5);
        dueConstant(y, 0, 0);
        due("changed()", y.changed(), 0);
    }
}
