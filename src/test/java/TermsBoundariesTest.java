/** Each boundary case of the document's terms: the operations, what a formula needs, settling, and errors. */
public final class TermsBoundariesTest extends Checks {
    private static final int MOST_CALLS = 512;

    public static void main(String[] args) {
        runAll(TermsBoundariesTest.class);
    }

    // "An object is used for at most 512 calls after it has been made"

    static void theLastOfTheMostCallsStillAsksRightly() {
        about = "at most 512 calls";
        IndirectSheet x = new IndirectSheet();
        for (int call = 1; call < MOST_CALLS; call++) {
            x.put(call % 16, call);
        }
        due("value(15) as call 512", x.value(15), 511);
    }

    static void theLastOfTheMostCallsStillChanges() {
        about = "at most 512 calls";
        IndirectSheet x = new IndirectSheet();
        for (int call = 1; call < MOST_CALLS - 1; call++) {
            x.formula(call % 16, call % 9, call % 15, call % 14);
        }
        due("put(3, 4) as call 511", x.put(3, 4), true);
        due("value(3) as call 512", x.value(3), 4);
    }

    static void noCallAfterTheMostCallsThrows() {
        about = "what later calls answer is free, but none may throw";
        IndirectSheet x = new IndirectSheet();
        for (int call = 1; call < 4 * MOST_CALLS; call++) {
            x.formula(call % 16, call % 9, call % 15, call % 14);
            x.copy(call % 13, call % 16);
            x.reached(call % 16);
        }
    }

    // "There are cells 0 .. 15", "NUMBER (with a value, an int)"

    static void theFirstAndTheLastCellCanBeNeeded() {
        about = "there are cells 0 .. 15";
        IndirectSheet x = new IndirectSheet();
        x.put(0, 3);
        x.put(15, 40);
        x.formula(7, ADD, 0, 15);
        dueNumber(x, 7, 43);
        due("needs(7)", x.needs(7), bits(0, 15));
    }

    static void theLeastAndTheGreatestIntAreValues() {
        about = "NUMBER (with a value, an int)";
        for (int v : FAR_CONSTANTS) {
            IndirectSheet x = new IndirectSheet();
            x.put(3, v);
            x.formula(4, ADD, 3, 5);
            x.formula(6, SUM, 4, 5);
            theCase = "with the value " + v + ", ";
            dueNumber(x, 4, v);
            dueNumber(x, 6, v);
        }
    }

    // The operations: "arithmetic wraps"

    static void addUpToTheGreatestIntAndOver() {
        about = "ADD, arithmetic wraps";
        dueResult(ADD, GREATEST - 1, 1, GREATEST);
        dueResult(ADD, GREATEST, 0, GREATEST);
        dueResult(ADD, GREATEST, 1, LEAST);
        dueResult(ADD, 1, GREATEST, LEAST);
        dueResult(ADD, GREATEST, GREATEST, -2);
    }

    static void addDownToTheLeastIntAndUnder() {
        about = "ADD, arithmetic wraps";
        dueResult(ADD, LEAST + 1, -1, LEAST);
        dueResult(ADD, LEAST, 0, LEAST);
        dueResult(ADD, LEAST, -1, GREATEST);
        dueResult(ADD, -1, LEAST, GREATEST);
        dueResult(ADD, LEAST, LEAST, 0);
    }

    static void subUpToTheGreatestIntAndOver() {
        about = "SUB, arithmetic wraps";
        dueResult(SUB, GREATEST - 1, -1, GREATEST);
        dueResult(SUB, GREATEST, -1, LEAST);
        dueResult(SUB, -1, LEAST, GREATEST);
        dueResult(SUB, 0, LEAST, LEAST);
    }

    static void subDownToTheLeastIntAndUnder() {
        about = "SUB, arithmetic wraps";
        dueResult(SUB, LEAST + 1, 1, LEAST);
        dueResult(SUB, LEAST, 1, GREATEST);
        dueResult(SUB, -1, GREATEST, LEAST);
        dueResult(SUB, -2, GREATEST, GREATEST);
        dueResult(SUB, LEAST, LEAST, 0);
    }

    static void mulUpToTheGreatestIntAndOver() {
        about = "MUL, arithmetic wraps";
        dueResult(MUL, GREATEST, 1, GREATEST);
        dueResult(MUL, LEAST + 1, -1, GREATEST);
        dueResult(MUL, LEAST, -1, LEAST);
        dueResult(MUL, 32768, 65535, 2147450880);
        dueResult(MUL, 32768, 65536, LEAST);
        dueResult(MUL, 46340, 46340, 2147395600);
        dueResult(MUL, 46341, 46341, -2147479015);
    }

    static void mulDownToTheLeastIntAndUnder() {
        about = "MUL, arithmetic wraps";
        dueResult(MUL, LEAST, 1, LEAST);
        dueResult(MUL, -32768, 65536, LEAST);
        dueResult(MUL, -32769, 65536, 2147418112);
        dueResult(MUL, GREATEST, -1, LEAST + 1);
        dueResult(MUL, 65536, 65536, 0);
        dueResult(MUL, LEAST, LEAST, 0);
        dueResult(MUL, GREATEST, GREATEST, 1);
    }

    static void oneCellAsBothAAndB() {
        about = "a and b may be the same cell";
        int[] wanted = {14, 0, 49, 1, 0, 7, 0, 7};
        for (int op : TWO_CELLS) {
            IndirectSheet x = new IndirectSheet();
            x.put(15, 7);
            x.formula(0, op, 15, 15);
            theCase = "operation " + op + ", ";
            dueNumber(x, 0, wanted[op]);
            due("needs(0)", x.needs(0), bits(15));
        }
    }

    private static void dueResult(int op, int valueOfA, int valueOfB, int want) {
        dueNumber(sheetWith(op, valueOfA, valueOfB), 0, want);
    }

    /** A sheet with the formula in cell 0, whose a is cell 15 and whose b is cell 1. */
    private static IndirectSheet sheetWith(int op, int valueOfA, int valueOfB) {
        theCase = "operation " + op + " of " + valueOfA + " and " + valueOfB + ", ";
        IndirectSheet x = new IndirectSheet();
        x.put(15, valueOfA);
        x.put(1, valueOfB);
        x.formula(0, op, 15, 1);
        return x;
    }

    // The operations: DIV

    static void divIsRoundedTowards0() {
        about = "DIV, rounded towards 0";
        dueResult(DIV, 7, 2, 3);
        dueResult(DIV, -7, 2, -3);
        dueResult(DIV, 7, -2, -3);
        dueResult(DIV, -7, -2, 3);
        dueResult(DIV, 6, 2, 3);
        dueResult(DIV, -6, 2, -3);
    }

    static void divOfLessThanTheDivisorIs0() {
        about = "DIV, rounded towards 0";
        dueResult(DIV, 2, 3, 0);
        dueResult(DIV, -2, 3, 0);
        dueResult(DIV, 2, -3, 0);
        dueResult(DIV, -2, -3, 0);
        dueResult(DIV, 3, 3, 1);
        dueResult(DIV, 0, 3, 0);
        dueResult(DIV, 0, LEAST, 0);
        dueResult(DIV, GREATEST, LEAST, 0);
        dueResult(DIV, LEAST, GREATEST, -1);
        dueResult(DIV, LEAST, LEAST, 1);
    }

    static void divBy0IsAnError() {
        about = "DIV_ERROR when the value of b is 0";
        int[] dividends = {LEAST, -1, 0, 1, GREATEST};
        for (int dividend : dividends) {
            dueOther(sheetWith(DIV, dividend, 0), 0, DIV_ERROR);
        }
    }

    static void divByTheNeighboursOf0IsANumber() {
        about = "DIV_ERROR when the value of b is 0, and only then";
        dueResult(DIV, 9, 1, 9);
        dueResult(DIV, 9, -1, -9);
        dueResult(DIV, 0, 1, 0);
        dueResult(DIV, 0, -1, 0);
        dueResult(DIV, LEAST, 1, LEAST);
    }

    static void theLeastIntDividedByMinus1IsTheLeastInt() {
        about = "the least int divided by -1 is the least int";
        dueResult(DIV, LEAST, -1, LEAST);
        dueResult(DIV, LEAST + 1, -1, GREATEST);
        dueResult(DIV, GREATEST, -1, LEAST + 1);
        dueResult(DIV, LEAST, -2, 1073741824);
    }

    // The operations: THROUGH

    static void throughGoesToTheFirstCellAndNotBelow() {
        about = "THROUGH, REF_ERROR when that is not a number 0 .. 15";
        int[] shifts = {-15, -8, 0, 8, 15};
        for (int b : shifts) {
            dueNumber(sheetThrough(-b, b), 1, 100);
            dueOther(sheetThrough(-b - 1, b), 1, REF_ERROR);
        }
    }

    static void throughGoesToTheLastCellAndNotAbove() {
        about = "THROUGH, REF_ERROR when that is not a number 0 .. 15";
        int[] shifts = {-15, -8, 0, 8, 15};
        for (int b : shifts) {
            dueNumber(sheetThrough(15 - b, b), 1, 115);
            dueOther(sheetThrough(16 - b, b), 1, REF_ERROR);
        }
    }

    static void throughDoesNotWrapAboveTheGreatestInt() {
        about = "THROUGH, the sum does not wrap";
        int[] shifts = {1, 2, 14, 15};
        for (int b : shifts) {
            dueOther(sheetThrough(GREATEST, b), 1, REF_ERROR);
            dueOther(sheetThrough(GREATEST - b, b), 1, REF_ERROR);
            dueOther(sheetThrough(GREATEST - b + 1, b), 1, REF_ERROR);
        }
    }

    static void throughDoesNotWrapBelowTheLeastInt() {
        about = "THROUGH, the sum does not wrap";
        int[] shifts = {-1, -2, -14, -15};
        for (int b : shifts) {
            dueOther(sheetThrough(LEAST, b), 1, REF_ERROR);
            dueOther(sheetThrough(LEAST - b, b), 1, REF_ERROR);
            dueOther(sheetThrough(LEAST - b - 1, b), 1, REF_ERROR);
        }
    }

    static void throughDoesNotCutTheSumToFewerBits() {
        about = "THROUGH, it is taken as a whole number";
        int[] far = {32, 256, 65536, 1 << 30, LEAST, -32, -256, -65536};
        for (int value : far) {
            dueOther(sheetThrough(value, 3), 1, REF_ERROR);
        }
    }

    static void throughHasTheStateOfTheOtherCell() {
        about = "THROUGH, the state and value of the cell whose number is the value of a plus b";
        int[] wanted = {NUMBER, CIRCULAR, DIV_ERROR, REF_ERROR};
        for (int b = 12; b <= 15; b++) {
            IndirectSheet x = sheetWithErrors();
            x.formula(1, THROUGH, 0, b);
            theCase = "THROUGH to cell " + b + ", ";
            dueOther(x, 1, wanted[b - 12]);
            due("needs(1)", x.needs(1), bits(0, b));
        }
    }

    static void throughMayComeBackToItsFirstCell() {
        about = "THROUGH, the cell whose number is the value of a plus b may be a";
        for (int cell : ENDS) {
            IndirectSheet x = new IndirectSheet();
            x.put(cell, 7);
            x.formula(3, THROUGH, cell, cell - 7);
            dueNumber(x, 3, 7);
            due("needs(3)", x.needs(3), bits(cell));
        }
    }

    /** A sheet with THROUGH in cell 1, whose a is cell 2; every other cell holds 100 more than its number. */
    private static IndirectSheet sheetThrough(int valueOfA, int b) {
        theCase = "THROUGH by " + valueOfA + " and " + b + ", ";
        IndirectSheet x = new IndirectSheet();
        for (int cell = 0; cell < 16; cell++) {
            x.put(cell, 100 + cell);
        }
        x.put(2, valueOfA);
        x.formula(1, THROUGH, 2, b);
        return x;
    }

    // The operations: SUM

    static void sumIncludesBothEndsAndNotTheirNeighbours() {
        about = "SUM from the lesser of a and b to the greater, both included";
        dueSum(3, 6, 8 + 16 + 32 + 64);
        dueSum(3, 4, 8 + 16);
    }

    static void sumWithTheGreaterFirst() {
        about = "SUM from the lesser of a and b to the greater";
        dueSum(6, 3, 8 + 16 + 32 + 64);
        dueSum(4, 3, 8 + 16);
        dueSum(14, 0, 32767);
    }

    static void sumOfASpanOfOneCell() {
        about = "SUM from the lesser of a and b to the greater, both included";
        dueSum(0, 0, 1);
        dueSum(7, 7, 128);
        dueSum(14, 14, 16384);
    }

    static void sumFromTheFirstCellAndToTheLast() {
        about = "SUM of the longest spans that leave out the cell itself";
        dueSum(0, 14, 32767);
        IndirectSheet x = new IndirectSheet();
        for (int cell = 1; cell < 16; cell++) {
            x.put(cell, 1 << cell);
        }
        x.formula(0, SUM, 1, 15);
        dueNumber(x, 0, 65534);
        x.formula(0, SUM, 15, 15);
        dueNumber(x, 0, 32768);
    }

    static void sumOverTheCellItselfIsCircular() {
        about = "SUM over the cell itself";
        for (int cell = 0; cell < 16; cell++) {
            IndirectSheet x = new IndirectSheet();
            x.formula(cell, SUM, 0, 15);
            theCase = "SUM 0 15 in cell " + cell + ", ";
            due("circular()", x.circular(), bits(cell));
            due("needs", x.needs(cell), ALL_CELLS);
        }
    }

    static void sumBesideTheCellItselfIsANumber() {
        about = "SUM over the cells next to the cell itself";
        IndirectSheet x = new IndirectSheet();
        x.put(6, 5);
        x.put(8, 9);
        x.formula(7, SUM, 0, 6);
        dueNumber(x, 7, 5);
        x.formula(7, SUM, 15, 8);
        dueNumber(x, 7, 9);
        x.formula(7, SUM, 0, 7);
        dueOther(x, 7, CIRCULAR);
        x.formula(7, SUM, 15, 7);
        dueOther(x, 7, CIRCULAR);
    }

    static void sumWraps() {
        about = "SUM, arithmetic wraps";
        dueSumOfThree(GREATEST, 0, 0, GREATEST);
        dueSumOfThree(GREATEST, 1, 0, LEAST);
        dueSumOfThree(GREATEST, 1, -1, GREATEST);
        dueSumOfThree(LEAST, 0, 0, LEAST);
        dueSumOfThree(LEAST, -1, 0, GREATEST);
        dueSumOfThree(LEAST, -1, 1, LEAST);
        dueSumOfThree(GREATEST, GREATEST, GREATEST, GREATEST - 2);
        dueSumOfThree(LEAST, LEAST, LEAST, LEAST);
    }

    /** Every cell but 15 holds the power of two of its number, so that each span has a sum of its own. */
    private static void dueSum(int a, int b, int want) {
        IndirectSheet x = new IndirectSheet();
        for (int cell = 0; cell < 15; cell++) {
            x.put(cell, 1 << cell);
        }
        x.formula(15, SUM, a, b);
        theCase = "SUM " + a + " " + b + ", ";
        dueNumber(x, 15, want);
    }

    private static void dueSumOfThree(int first, int second, int third, int want) {
        IndirectSheet x = new IndirectSheet();
        x.put(4, first);
        x.put(5, second);
        x.put(6, third);
        x.formula(15, SUM, 4, 6);
        theCase = "SUM of " + first + ", " + second + " and " + third + ", ";
        dueNumber(x, 15, want);
    }

    // The operations: ISERR, WHEN and LOST

    static void iserrIs1ForEachError() {
        about = "ISERR, 1 when a is DIV_ERROR or REF_ERROR";
        IndirectSheet x = sheetWithErrors();
        x.formula(1, ISERR, 14, 0);
        dueNumber(x, 1, 1);
        x.formula(1, ISERR, 15, 0);
        dueNumber(x, 1, 1);
    }

    static void iserrIs0ForEveryNumber() {
        about = "ISERR, 0 when it is NUMBER";
        for (int v : FAR_CONSTANTS) {
            IndirectSheet x = new IndirectSheet();
            x.put(2, v);
            x.formula(1, ISERR, 2, 0);
            theCase = "ISERR of " + v + ", ";
            dueNumber(x, 1, 0);
        }
    }

    static void iserrOfACircularCellIsCircular() {
        about = "ISERR needs a";
        IndirectSheet x = sheetWithErrors();
        x.formula(1, ISERR, 13, 0);
        dueOther(x, 1, CIRCULAR);
    }

    static void iserrDoesNotLookAtTheCellThatBNames() {
        about = "ISERR, b is not used, and counts as 0";
        for (int b = 13; b <= 15; b++) {
            IndirectSheet x = sheetWithErrors();
            x.formula(0, LOST, 0, 0);
            x.formula(1, ISERR, 2, b);
            theCase = "ISERR 2 " + b + ", ";
            dueNumber(x, 1, 0);
            dueFormula(x, 1, ISERR, 2, 0);
            due("needs(1)", x.needs(1), bits(2));
        }
    }

    static void iserrInTheCellThatItsBNamesIsNotCircular() {
        about = "ISERR, b is not used, and counts as 0";
        IndirectSheet x = new IndirectSheet();
        x.formula(0, ISERR, 2, 0);
        x.formula(1, ISERR, 2, 1);
        due("circular()", x.circular(), 0);
    }

    static void whenIsTheValueOfBForEveryNumberBut0() {
        about = "WHEN, value of b when the value of a is not 0";
        int[] conditions = {LEAST, -1, 1, 2, 256, 65536, GREATEST};
        for (int condition : conditions) {
            dueResult(WHEN, condition, 42, 42);
            dueResult(WHEN, condition, LEAST, LEAST);
            dueResult(WHEN, condition, 0, 0);
        }
    }

    static void whenIs0When0() {
        about = "WHEN, else 0";
        dueResult(WHEN, 0, 42, 0);
        dueResult(WHEN, 0, LEAST, 0);
        dueResult(WHEN, 0, GREATEST, 0);
    }

    static void whenNeedsBEvenWhenAIs0() {
        about = "WHEN needs a and b";
        int[] wanted = {CIRCULAR, DIV_ERROR, REF_ERROR};
        for (int b = 13; b <= 15; b++) {
            IndirectSheet x = sheetWithErrors();
            x.formula(1, WHEN, 0, b);
            theCase = "WHEN 0 " + b + ", ";
            dueOther(x, 1, wanted[b - 13]);
            due("needs(1)", x.needs(1), bits(0, b));
        }
    }

    static void lostIsARefErrorWhateverItsNumbers() {
        about = "LOST, REF_ERROR (a and b are not used, and count as 0)";
        int[] numbers = {LEAST, -1, 0, 13, 14, 15, 16, GREATEST};
        for (int number : numbers) {
            IndirectSheet x = sheetWithErrors();
            x.formula(3, LOST, number, number);
            theCase = "LOST " + number + ", ";
            dueOther(x, 3, REF_ERROR);
            dueFormula(x, 3, LOST, 0, 0);
            due("needs(3)", x.needs(3), 0);
        }
    }

    static void lostInACellThatItsNumbersNameIsNotCircular() {
        about = "LOST needs none";
        for (int cell : ENDS) {
            IndirectSheet x = new IndirectSheet();
            x.formula(cell, LOST, cell, cell);
            dueOther(x, cell, REF_ERROR);
            due("reached(" + cell + ")", x.reached(cell), 0);
        }
    }

    // "A formula NEEDS cells", "A cell may need itself"

    static void aCellMayNeedItselfByA() {
        about = "a cell may need itself";
        for (int op = ADD; op <= WHEN; op++) {
            for (int cell : ENDS) {
                IndirectSheet x = new IndirectSheet();
                theCase = "operation " + op + " in cell " + cell + ", ";
                due("formula", x.formula(cell, op, cell, 7), true);
                dueOther(x, cell, CIRCULAR);
                due("circular()", x.circular(), bits(cell));
                due("reached", x.reached(cell), bits(cell));
            }
        }
    }

    static void aCellMayNeedItselfByB() {
        about = "a cell may need itself";
        for (int op : TWO_CELLS) {
            for (int cell : ENDS) {
                IndirectSheet x = new IndirectSheet();
                theCase = "operation " + op + " in cell " + cell + ", ";
                due("formula", x.formula(cell, op, 7, cell), true);
                dueOther(x, cell, CIRCULAR);
                due("circular()", x.circular(), bits(cell));
                due("reached", x.reached(cell), bits(cell));
            }
        }
    }

    static void aCellMayNeedItselfThroughAValue() {
        about = "a cell may need itself";
        for (int cell : ENDS) {
            IndirectSheet x = new IndirectSheet();
            x.put(7, cell);
            x.formula(cell, THROUGH, 7, 0);
            dueOther(x, cell, CIRCULAR);
            due("needs(" + cell + ")", x.needs(cell), bits(7, cell));
            due("reached(7)", x.reached(7), bits(cell));
        }
    }

    // "The states are settled one after the other"

    static void theLongestChainUpwardsIsSettled() {
        about = "a formula is settled as soon as all cells that it needs are";
        for (int op = ADD; op <= WHEN; op++) {
            IndirectSheet x = new IndirectSheet();
            x.put(0, startOfChain(op, 0));
            for (int cell = 15; cell >= 1; cell--) {
                x.formula(cell, op, cell - 1, op == THROUGH ? 0 : cell - 1);
            }
            theCase = "operation " + op + ", ";
            due("circular()", x.circular(), 0);
            dueNumber(x, 15, endOfChain(op, 0));
        }
    }

    static void theLongestChainDownwardsIsSettled() {
        about = "a formula is settled as soon as all cells that it needs are";
        for (int op = ADD; op <= WHEN; op++) {
            IndirectSheet x = new IndirectSheet();
            x.put(15, startOfChain(op, 15));
            for (int cell = 0; cell <= 14; cell++) {
                x.formula(cell, op, cell + 1, op == THROUGH ? 0 : cell + 1);
            }
            theCase = "operation " + op + ", ";
            due("circular()", x.circular(), 0);
            dueNumber(x, 0, endOfChain(op, 15));
        }
    }

    /** A chain of THROUGH starts with the number of its first cell, so that all of them go to that cell. */
    private static int startOfChain(int op, int firstCell) {
        return op == THROUGH ? firstCell : 1;
    }

    private static int endOfChain(int op, int firstCell) {
        int[] wanted = {32768, 0, 1, 1, firstCell, 1, 0, 1};
        return wanted[op];
    }

    static void aChainOfFormulasAloneIsSettled() {
        about = "a formula is settled as soon as all cells that it needs are";
        IndirectSheet x = new IndirectSheet();
        for (int cell = 0; cell <= 14; cell++) {
            x.formula(cell, WHEN, cell + 1, cell + 1);
        }
        x.formula(15, LOST, 0, 0);
        due("count(REF_ERROR)", x.count(REF_ERROR), 16);
        due("circular()", x.circular(), 0);
    }

    static void aChainThroughSecondCellsIsSettledBothWays() {
        about = "THROUGH needs its second cell only once a is settled";
        IndirectSheet x = new IndirectSheet();
        for (int cell = 1; cell <= 14; cell++) {
            x.formula(cell, THROUGH, 0, cell);
        }
        x.put(15, 9);
        due("circular() when each goes to itself", x.circular(), 32766);
        x.put(0, 1);
        due("circular() when each goes to the next", x.circular(), 0);
        dueNumber(x, 1, 9);
        x.put(0, -1);
        due("circular() when each goes to the one before", x.circular(), 0);
        dueNumber(x, 14, -1);
        x.put(0, 2);
        dueOther(x, 14, REF_ERROR);
        dueNumber(x, 13, 9);
        dueOther(x, 2, REF_ERROR);
        dueNumber(x, 1, 9);
    }

    static void throughASettledAOnlyMakesARing() {
        about = "THROUGH needs its second cell only once a is settled";
        IndirectSheet x = new IndirectSheet();
        x.formula(1, THROUGH, 2, 0);
        x.formula(5, ADD, 1, 1);
        x.formula(2, ADD, 3, 4);
        x.put(3, 2);
        dueNumber(x, 5, 4);
        x.put(4, 3);
        due("circular() when cell 1 goes to cell 5", x.circular(), bits(1, 5));
        due("needs(1)", x.needs(1), bits(2, 5));
        x.put(4, 14);
        dueOther(x, 5, REF_ERROR);
        due("circular() when cell 1 goes to no cell", x.circular(), 0);
    }

    static void throughAnUnsettledANeedsNoOtherCell() {
        about = "THROUGH needs, when a is NUMBER and the sum is a cell, that cell";
        IndirectSheet x = new IndirectSheet();
        x.put(2, 7);
        x.formula(1, THROUGH, 2, 0);
        due("reached(7)", x.reached(7), bits(1));
        x.formula(2, ADD, 1, 3);
        due("circular()", x.circular(), bits(1, 2));
        due("needs(1)", x.needs(1), bits(2));
        due("reached(7) once cell 2 is CIRCULAR", x.reached(7), 0);
    }

    static void aRingOfTwoIsCircularAndWhatNeedsIt() {
        about = "cells that can never be settled so are CIRCULAR";
        IndirectSheet x = new IndirectSheet();
        x.formula(0, ADD, 15, 7);
        x.formula(15, ADD, 0, 8);
        x.formula(3, ISERR, 15, 0);
        x.formula(8, ADD, 7, 7);
        due("circular()", x.circular(), bits(0, 15, 3));
        dueNumber(x, 7, 0);
        dueNumber(x, 8, 0);
    }

    static void aRingOfAllCellsIsCircularUntilItIsBroken() {
        about = "cells that can never be settled so are CIRCULAR";
        IndirectSheet x = new IndirectSheet();
        for (int cell = 0; cell < 15; cell++) {
            x.formula(cell, ISERR, cell + 1, 0);
        }
        due("circular()", x.circular(), 0);
        x.formula(15, ISERR, 0, 0);
        due("circular()", x.circular(), ALL_CELLS);
        x.formula(15, LOST, 0, 0);
        due("circular()", x.circular(), 0);
        dueNumber(x, 14, 1);
        dueNumber(x, 0, 0);
    }

    static void aCellThatNeedsACircularOneAndAnErrorIsCircular() {
        about = "a formula is settled as soon as all cells that it needs are";
        for (int op : TWO_CELLS) {
            for (int error = 14; error <= 15; error++) {
                IndirectSheet x = sheetWithErrors();
                theCase = "operation " + op + " with cell " + error + ", ";
                x.formula(1, op, 13, error);
                dueOther(x, 1, CIRCULAR);
                x.formula(1, op, error, 13);
                dueOther(x, 1, CIRCULAR);
            }
        }
    }

    // ERRORS

    static void anErrorOfAIsTakenOver() {
        about = "a formula one of whose needed cells is DIV_ERROR or REF_ERROR has the state of it";
        for (int op : A_AND_B) {
            dueError(op, 14, 0, DIV_ERROR);
            dueError(op, 15, 0, REF_ERROR);
        }
        dueError(THROUGH, 14, 0, DIV_ERROR);
        dueError(THROUGH, 15, 0, REF_ERROR);
    }

    static void anErrorOfBIsTakenOver() {
        about = "a formula one of whose needed cells is DIV_ERROR or REF_ERROR has the state of it";
        for (int op : A_AND_B) {
            dueError(op, 0, 14, DIV_ERROR);
            dueError(op, 0, 15, REF_ERROR);
        }
    }

    static void theErrorOfAComesBeforeThatOfB() {
        about = "the state of the first such cell, in the order a, b";
        for (int op : A_AND_B) {
            dueError(op, 14, 15, DIV_ERROR);
            dueError(op, 15, 14, REF_ERROR);
        }
    }

    static void theErrorOfAComesBeforeADivisionBy0() {
        about = "DIV of an error by 0 has the error of a";
        dueError(DIV, 15, 0, REF_ERROR);
        dueError(DIV, 14, 0, DIV_ERROR);
    }

    static void anErrorAsDivisorIsNotADivisionBy0() {
        about = "DIV by an error has the error of b";
        dueError(DIV, 12, 15, REF_ERROR);
    }

    static void theErrorsOfSumComeFromTheLeastNumberUp() {
        about = "for SUM from the least number up";
        dueError(SUM, 14, 15, DIV_ERROR);
        dueError(SUM, 15, 14, DIV_ERROR);
        IndirectSheet x = new IndirectSheet();
        x.formula(3, LOST, 0, 0);
        x.formula(5, DIV, 4, 4);
        x.formula(0, SUM, 2, 6);
        dueOther(x, 0, REF_ERROR);
        x.formula(0, SUM, 6, 2);
        dueOther(x, 0, REF_ERROR);
    }

    static void theErrorsOfSumAreThoseOfItsSpanAndNoOthers() {
        about = "for SUM, one of its needed cells";
        IndirectSheet x = new IndirectSheet();
        x.formula(3, LOST, 0, 0);
        x.formula(5, DIV, 4, 4);
        int[][] rows = {
            {3, 5, REF_ERROR}, {5, 3, REF_ERROR}, {3, 4, REF_ERROR}, {2, 3, REF_ERROR}, {3, 3, REF_ERROR},
            {4, 5, DIV_ERROR}, {5, 6, DIV_ERROR}, {5, 5, DIV_ERROR}, {15, 4, DIV_ERROR},
            {4, 4, NUMBER}, {1, 2, NUMBER}, {6, 15, NUMBER},
        };
        for (int[] row : rows) {
            x.formula(0, SUM, row[0], row[1]);
            theCase = "SUM " + row[0] + " " + row[1] + ", ";
            dueOther(x, 0, row[2]);
        }
    }

    static void theErrorsOfThroughAreThatOfAAndThenOfTheOtherCell() {
        about = "for THROUGH a, then the other one";
        dueError(THROUGH, 14, 15, DIV_ERROR);
        dueError(THROUGH, 15, 14, REF_ERROR);
        dueError(THROUGH, 0, 14, DIV_ERROR);
        dueError(THROUGH, 0, 15, REF_ERROR);
        IndirectSheet x = sheetWithErrors();
        x.formula(1, THROUGH, 14, 15);
        due("needs(1) while a is an error", x.needs(1), bits(14));
    }

    static void anErrorInTheFirstOrTheLastCellIsTakenOver() {
        about = "one of whose needed cells is DIV_ERROR or REF_ERROR";
        for (int error : ENDS) {
            int neighbour = error == 0 ? 1 : 14;
            IndirectSheet x = new IndirectSheet();
            x.formula(error, DIV, 7, 7);
            theCase = "with the error in cell " + error + ", ";
            for (int op : TWO_CELLS) {
                x.formula(8, op, neighbour, error);
                dueOther(x, 8, DIV_ERROR);
                x.formula(8, op, error, neighbour);
                dueOther(x, 8, DIV_ERROR);
            }
            x.formula(8, THROUGH, error, 7);
            dueOther(x, 8, DIV_ERROR);
            x.formula(8, THROUGH, 7, error);
            dueOther(x, 8, DIV_ERROR);
        }
    }

    static void iserrTakesNoErrorOver() {
        about = "except in ISERR";
        IndirectSheet x = sheetWithErrors();
        for (int error = 14; error <= 15; error++) {
            x.formula(1, ISERR, error, 0);
            x.formula(2, ADD, 1, 1);
            dueNumber(x, 1, 1);
            dueNumber(x, 2, 2);
        }
    }

    static void anErrorIsTakenOverAlongTheLongestChain() {
        about = "has the state of the first such cell";
        int[] errors = {DIV, LOST};
        for (int error : errors) {
            IndirectSheet x = new IndirectSheet();
            x.formula(14, error, 15, 15);
            for (int cell = 0; cell < 14; cell++) {
                x.formula(cell, SUB, cell + 1, 15);
            }
            int state = error == DIV ? DIV_ERROR : REF_ERROR;
            dueOther(x, 0, state);
            due("count(" + state + ")", x.count(state), 15);
        }
    }

    /** In a sheet whose cell 14 is DIV_ERROR, 15 REF_ERROR, and 0 and 12 the constant 0. */
    private static void dueError(int op, int a, int b, int want) {
        IndirectSheet x = sheetWithErrors();
        x.formula(1, op, a, b);
        theCase = "operation " + op + " " + a + " " + b + ", ";
        dueOther(x, 1, want);
    }
}
