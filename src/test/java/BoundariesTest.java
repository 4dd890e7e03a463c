/**
 * One test for each sentence of the document that names a boundary case. Each test bears its
 * sentence, and a wrong answer is printed with it. The answers are worked out by hand.
 */
public final class BoundariesTest {
    private static final int MOST_CALLS = 512;
    private static final int FUNCTIONS = 3;
    /** Variable 0, 1, 2, 3, 4 alone; for fewer than five variables the higher bits are not looked at. */
    private static final int[] SINGLE = {0xAAAAAAAA, 0xCCCCCCCC, 0xF0F0F0F0, 0xFF00FF00, 0xFFFF0000};

    private static String sentence = "";
    private static int wrong = 0;

    private static void due(String call, int got, int want) {
        if (got != want) {
            wrong++;
            System.out.println("\"" + sentence + "\": " + call + " answered " + got + ", due is " + want);
        }
    }

    public static void main(String[] args) {
        whatItIs();
        terms();
        promises();
        System.out.println(wrong == 0 ? "all answers are as due" : wrong + " answers are not as due");
        if (wrong != 0) {
            System.exit(1);
        }
    }

    private static void whatItIs() {
        sentence = "An object is used for at most 512 calls after it has been made";
        everyCallAsThe512th();
        callsOfOneKind512Times();
        sentence = "what later calls answer is free (but rule 7 of the language: no call may ever throw)";
        laterCallsEnd();
    }

    private static void terms() {
        sentence = "There are n VARIABLES, 0 to n-1";
        firstAndLastVariable();
        sentence = "and three FUNCTIONS, 0 to 2";
        firstAndLastFunction();
        sentence = "each of which gives 0 or 1 for every ASSIGNMENT";
        valuesAreZeroOrOne();
        sentence = "An assignment is a number a from 0 to 2^n - 1";
        firstAndLastAssignment();
        sentence = "variable v has in it the value of bit v of a";
        variableIsItsBit();
        sentence = "At the start all functions give 0 everywhere.";
        allZeroAtTheStart();
        sentence = "AN ORDER puts the variables on the places 0 to n-1, each on one.";
        everyVariableOnOnePlace();
        sentence = "A REST FUNCTION at place p [...] when the variables on the places before p are given fixed values";
        restFunctionsAtTheFirstAndLastPlace();
        sentence = "Two rest functions at the same place are the same if they give the same value for all values of those variables";
        sameRestFunctionsCountOnce();
        differentRestFunctionsCountEach();
        sentence = "(whichever of the three functions they come from)";
        restFunctionsOfDifferentFunctions();
        sentence = "The WIDTH at place p is the number of different rest functions at place p that depend on the variable on place p";
        functionsWithoutTheVariableDoNotCount();
        sentence = "that give different values for some two assignments which differ in that variable only";
        onePairOfAssignmentsIsEnough();
        sentence = "The SIZE is the sum of the widths at all places.";
        emptyDiagram();
        fullestDiagram();
        sentence = "The BEST order is, of the orders of least size, the one with the least variable on place 0";
        bestHasLeastVariableFirst();
        sentence = "among those the one with the least on place 1, and so on";
        bestHasLeastVariablesAfterwards();
        sentence = "The object also has a PRESENT order; at the start variable p is on place p.";
        presentOrderAtTheStart();
        sentence = "Variables, places, functions and assignments out of range are refused: the call answers -1 and changes nothing.";
        refusedFunctions();
        refusedAssignments();
        refusedPlaces();
        refusedVariables();
        refusedInBothArguments();
    }

    private static void promises() {
        sentence = "variables: n, less than 1 becomes 1, more than 5 becomes 5.";
        numberOfVariablesIsBroughtIntoRange();
        sentence = "The function gives for every assignment a the value of bit a of bits";
        loadOfEveryBit();
        sentence = "(for n < 5 the higher bits are not looked at)";
        higherBitsAreNotLookedAt();
        sentence = "load: Answers 0, or -1.";
        loadAnswers();
        sentence = "Turns the value of the function for the assignment round (0 to 1, 1 to 0). Answers the new value, or -1.";
        flipThereAndBack();
        sentence = "The value of the function for the assignment, or -1.";
        valueOfEveryAssignment();
        sentence = "The variables on the two places of the present order change places. Answers 0, or -1.";
        swapAtTheEdges();
        sentence = "The variable on the place in the present order, or -1.";
        atTheEdges();
        sentence = "The width at the place under the present order, or -1.";
        widthAtTheEdges();
        sentence = "The size under the present order.";
        sizeFollowsThePresentOrder();
        sentence = "The least size of all orders.";
        leastIsOverAllOrders();
        sentence = "The variable on the place in the best order, or -1.";
        bestAtTheEdges();
        sentence = "The greatest size of all orders.";
        greatestIsOverAllOrders();
        sentence = "The least size of the orders that have the variable on the place; -1.";
        leastWithAtTheEdges();
        leastWithTheOnlyOrder();
    }

    // ---- What it is

    /** After 511 calls: function 0 is (x0 and x2) or (x1 and x3), and the order is 0 2 1 3. */
    private static OrderFinder after511Calls() {
        OrderFinder x = new OrderFinder(4);
        x.load(0, 0xECA0);
        x.swap(1, 2);
        for (int i = 0; i < 254; i++) {
            x.flip(1, 15);
            x.flip(1, 15);
        }
        x.size();
        return x;
    }

    private static void everyCallAsThe512th() {
        due("512th call load(0, 1)", after511Calls().load(0, 1), 0);
        due("512th call flip(1, 15)", after511Calls().flip(1, 15), 1);
        due("512th call flip(0, 15)", after511Calls().flip(0, 15), 0);
        due("512th call value(0, 15)", after511Calls().value(0, 15), 1);
        due("512th call swap(0, 3)", after511Calls().swap(0, 3), 0);
        due("512th call at(1)", after511Calls().at(1), 2);
        due("512th call width(3)", after511Calls().width(3), 1);
        due("512th call size()", after511Calls().size(), 4);
        due("512th call least()", after511Calls().least(), 4);
        due("512th call best(1)", after511Calls().best(1), 2);
        due("512th call greatest()", after511Calls().greatest(), 6);
        due("512th call leastWith(3, 0)", after511Calls().leastWith(3, 0), 4);
        due("512th call value(3, 0)", after511Calls().value(3, 0), -1);
        due("512th call at(4)", after511Calls().at(4), -1);
    }

    private static void callsOfOneKind512Times() {
        OrderFinder loads = new OrderFinder(5);
        OrderFinder flips = new OrderFinder(5);
        OrderFinder swaps = new OrderFinder(5);
        OrderFinder searches = new OrderFinder(5);
        OrderFinder refused = new OrderFinder(5);
        // x4 chooses x0 or x1, so it must stand before both; x2 and x3 may stand anywhere.
        searches.load(0, 0xCCCCAAAA);
        int[] bestOrder = {2, 3, 4, 0, 1};
        for (int call = 1; call <= MOST_CALLS; call++) {
            due("load, call " + call, loads.load(call % FUNCTIONS, call), 0);
            due("flip(2, 31), call " + call, flips.flip(2, 31), call % 2);
            due("swap(0, 4), call " + call, swaps.swap(0, 4), 0);
            due("load(3, 1), call " + call, refused.load(3, 1), -1);
        }
        for (int call = 2; call + 3 <= MOST_CALLS; call += 4) {
            int place = call / 4 % 5;
            due("best(" + place + "), call " + call, searches.best(place), bestOrder[place]);
            due("least(), call " + (call + 1), searches.least(), 3);
            due("greatest(), call " + (call + 2), searches.greatest(), 5);
            due("leastWith(4, 4), call " + (call + 3), searches.leastWith(4, 4), 5);
        }
    }

    private static void laterCallsEnd() {
        for (int n = 1; n <= 5; n++) {
            OrderFinder x = new OrderFinder(n);
            for (int call = 0; call < 2 * MOST_CALLS; call++) {
                x.load(call % FUNCTIONS, call * 0x9E3779B9);
                x.flip(call % FUNCTIONS, call % (1 << n));
                x.value(call % FUNCTIONS, call % (1 << n));
                x.swap(call % n, 0);
                x.at(call % n);
                x.width(call % n);
                x.size();
                x.least();
                x.best(call % n);
                x.greatest();
                x.leastWith(call % n, 0);
            }
        }
    }

    // ---- Terms

    private static void firstAndLastVariable() {
        for (int n = 1; n <= 5; n++) {
            OrderFinder x = new OrderFinder(n);
            due("n=" + n + ": leastWith(0, 0)", x.leastWith(0, 0), 0);
            due("n=" + n + ": leastWith(n-1, 0)", x.leastWith(n - 1, 0), 0);
            due("n=" + n + ": leastWith(-1, 0)", x.leastWith(-1, 0), -1);
            due("n=" + n + ": leastWith(n, 0)", x.leastWith(n, 0), -1);
        }
    }

    private static void firstAndLastFunction() {
        OrderFinder x = new OrderFinder(2);
        due("load(0, 1)", x.load(0, 1), 0);
        due("load(1, 2)", x.load(1, 2), 0);
        due("load(2, 4)", x.load(2, 4), 0);
        due("load(-1, 8)", x.load(-1, 8), -1);
        due("load(3, 8)", x.load(3, 8), -1);
        for (int f = 0; f < FUNCTIONS; f++) {
            for (int a = 0; a < 4; a++) {
                due("value(" + f + ", " + a + ")", x.value(f, a), a == f ? 1 : 0);
            }
        }
        due("size() of three functions", x.size(), 5);
    }

    private static void valuesAreZeroOrOne() {
        for (int n = 1; n <= 5; n++) {
            OrderFinder x = new OrderFinder(n);
            x.load(0, -1);
            x.load(1, 0);
            for (int a = 0; a < 1 << n; a++) {
                due("n=" + n + ": value(0, " + a + ")", x.value(0, a), 1);
                due("n=" + n + ": value(1, " + a + ")", x.value(1, a), 0);
                due("n=" + n + ": value(2, " + a + ")", x.value(2, a), 0);
            }
        }
    }

    private static void firstAndLastAssignment() {
        for (int n = 1; n <= 5; n++) {
            OrderFinder x = new OrderFinder(n);
            int end = 1 << n;
            due("n=" + n + ": flip(0, 0)", x.flip(0, 0), 1);
            due("n=" + n + ": flip(0, 2^n - 1)", x.flip(0, end - 1), 1);
            due("n=" + n + ": value(0, 0)", x.value(0, 0), 1);
            due("n=" + n + ": value(0, 2^n - 1)", x.value(0, end - 1), 1);
            due("n=" + n + ": flip(0, -1)", x.flip(0, -1), -1);
            due("n=" + n + ": flip(0, 2^n)", x.flip(0, end), -1);
            due("n=" + n + ": value(0, -1)", x.value(0, -1), -1);
            due("n=" + n + ": value(0, 2^n)", x.value(0, end), -1);
        }
    }

    private static void variableIsItsBit() {
        for (int n = 1; n <= 5; n++) {
            for (int v = 0; v < n; v++) {
                OrderFinder x = new OrderFinder(n);
                for (int a = 0; a < 1 << n; a++) {
                    if (((a >> v) & 1) == 1) {
                        x.flip(0, a);
                    }
                }
                for (int p = 0; p < n; p++) {
                    due("n=" + n + ", x" + v + " alone: width(" + p + ")", x.width(p), p == v ? 1 : 0);
                }
            }
        }
    }

    private static void allZeroAtTheStart() {
        for (int n = 1; n <= 5; n++) {
            OrderFinder x = new OrderFinder(n);
            for (int f = 0; f < FUNCTIONS; f++) {
                for (int a = 0; a < 1 << n; a++) {
                    due("n=" + n + ": value(" + f + ", " + a + ")", x.value(f, a), 0);
                }
            }
            due("n=" + n + ": size()", x.size(), 0);
            due("n=" + n + ": greatest()", x.greatest(), 0);
        }
    }

    private static void everyVariableOnOnePlace() {
        for (int n = 1; n <= 5; n++) {
            OrderFinder x = new OrderFinder(n);
            x.load(0, 0x6AC1F309);
            x.load(1, 0x13579BDF);
            for (int p = 0; p < n; p++) {
                for (int q = 0; q < n; q++) {
                    x.swap(p, q);
                    int seen = 0;
                    for (int r = 0; r < n; r++) {
                        seen |= 1 << x.at(r);
                    }
                    due("n=" + n + ": variables at the places after swap(" + p + ", " + q + ")", seen, (1 << n) - 1);
                }
            }
            int seen = 0;
            for (int r = 0; r < n; r++) {
                seen |= 1 << x.best(r);
            }
            due("n=" + n + ": variables of the best order", seen, (1 << n) - 1);
            // Each order has some variable on the place, and each variable on some place.
            for (int k = 0; k < n; k++) {
                int byVariable = Integer.MAX_VALUE;
                int byPlace = Integer.MAX_VALUE;
                for (int m = 0; m < n; m++) {
                    byVariable = Math.min(byVariable, x.leastWith(m, k));
                    byPlace = Math.min(byPlace, x.leastWith(k, m));
                }
                due("n=" + n + ": least of leastWith(all, " + k + ")", byVariable, x.least());
                due("n=" + n + ": least of leastWith(" + k + ", all)", byPlace, x.least());
            }
        }
    }

    private static void restFunctionsAtTheFirstAndLastPlace() {
        for (int n = 2; n <= 5; n++) {
            OrderFinder x = new OrderFinder(n);
            int last = n - 1;
            // On place 0 nothing is fixed: one rest function for each function.
            x.load(0, SINGLE[0] & SINGLE[last]);
            due("n=" + n + ", an and: width(0)", x.width(0), 1);
            due("n=" + n + ", an and: width(n-1)", x.width(last), 1);
            x.load(1, SINGLE[0] | SINGLE[last]);
            due("n=" + n + ", and an or: width(0)", x.width(0), 2);
            due("n=" + n + ", and an or: width(n-1)", x.width(last), 1);
            // On the last place one variable is left: it or its opposite, whatever is fixed.
            x.load(2, SINGLE[0] ^ SINGLE[last]);
            due("n=" + n + ", and one of both: width(0)", x.width(0), 3);
            due("n=" + n + ", and one of both: width(n-1)", x.width(last), 2);
        }
        OrderFinder y = new OrderFinder(1);
        y.load(0, 2);
        due("n=1, x0: width(0)", y.width(0), 1);
        y.load(1, 1);
        due("n=1, x0 and its opposite: width(0)", y.width(0), 2);
    }

    private static void sameRestFunctionsCountOnce() {
        // Of the four ways to fix x0 and x1, two each lead to the same rest function.
        OrderFinder x = new OrderFinder(3);
        x.load(0, 0x96);
        dueWidths(x, "parity of three", 1, 2, 2);
        x.load(0, 0xE8);
        dueWidths(x, "majority of three", 1, 2, 1);
        OrderFinder y = new OrderFinder(5);
        y.load(0, 0x96696996);
        dueWidths(y, "parity of five", 1, 2, 2, 2, 2);
        // Four fixed values of x0 and x1, but only x0 and x1 both makes a rest function other than 0.
        y.load(0, SINGLE[0] & SINGLE[1] & SINGLE[2]);
        dueWidths(y, "an and of three", 1, 1, 1, 0, 0);
        // x0 chooses x2 both ways: the two rest functions are one, and x0 itself is of no use.
        OrderFinder z = new OrderFinder(3);
        z.load(0, 0xF0);
        dueWidths(z, "x2", 0, 0, 1);
    }

    private static void differentRestFunctionsCountEach() {
        OrderFinder x = new OrderFinder(5);
        // The rest functions differ in the last assignment alone, then in the first alone.
        x.load(0, SINGLE[0]);
        x.load(1, SINGLE[0] ^ 0x80000000);
        due("different in assignment 31 alone: width(0)", x.width(0), 2);
        x.load(2, SINGLE[0] ^ 1);
        due("different in assignment 0 alone: width(0)", x.width(0), 3);
        // A rest function and its opposite are two.
        OrderFinder y = new OrderFinder(4);
        y.load(0, 0x8000);
        y.load(1, 0x7FFF);
        dueWidths(y, "an and of four and its opposite", 2, 2, 2, 2);
        // (x0 and x2) or (x1 and x3): with x0 and x1 fixed, 0, x2, x3 and (x2 or x3) are left.
        OrderFinder z = new OrderFinder(4);
        z.load(0, 0xECA0);
        dueWidths(z, "pairs apart", 1, 2, 2, 1);
    }

    private static void restFunctionsOfDifferentFunctions() {
        for (int n = 1; n <= 5; n++) {
            OrderFinder x = new OrderFinder(n);
            x.load(0, 0x96696996);
            int alone = x.size();
            x.load(1, 0x96696996);
            due("n=" + n + ": size() of parity twice", x.size(), alone);
            x.load(2, 0x96696996);
            due("n=" + n + ": size() of parity three times", x.size(), alone);
            x.load(1, ~0x96696996);
            due("n=" + n + ": size() of parity twice and its opposite", x.size(), 2 * n);
        }
        // x2 alone is left of (x0 and x2), of (x2 without x0) and of x2 itself.
        int[] left = {0xA0, 0x50, 0xF0};
        for (int shift = 0; shift < FUNCTIONS; shift++) {
            OrderFinder y = new OrderFinder(3);
            y.load(shift, left[0]);
            dueWidths(y, "x0 and x2", 1, 0, 1);
            y.load((shift + 1) % FUNCTIONS, left[1]);
            dueWidths(y, "with x2 without x0", 2, 0, 1);
            y.load((shift + 2) % FUNCTIONS, left[2]);
            dueWidths(y, "with x2", 2, 0, 1);
        }
        // At the same place only: x1 is a rest function at place 1, (x0 and x1) is none there.
        OrderFinder z = new OrderFinder(2);
        z.load(0, 0x8);
        z.load(1, 0xC);
        dueWidths(z, "x0 and x1, with x1", 1, 1);
        z.load(2, 0xA);
        dueWidths(z, "with x0 too", 2, 1);
    }

    private static void functionsWithoutTheVariableDoNotCount() {
        for (int n = 1; n <= 5; n++) {
            for (int v = 0; v < n; v++) {
                OrderFinder x = new OrderFinder(n);
                x.load(0, SINGLE[v]);
                x.load(1, -1);
                for (int p = 0; p < n; p++) {
                    due("n=" + n + ", x" + v + " and constants: width(" + p + ")", x.width(p), p == v ? 1 : 0);
                }
                x.load(2, ~SINGLE[v]);
                x.swap(v, 0);
                for (int p = 0; p < n; p++) {
                    due("n=" + n + ", x" + v + " first, its opposite too: width(" + p + ")", x.width(p), p == 0 ? 2 : 0);
                }
            }
        }
        // Without x0 on place 0, but counted on place 1: the function is passed down whole.
        OrderFinder y = new OrderFinder(3);
        y.load(0, 0xC0);
        dueWidths(y, "x1 and x2", 0, 1, 1);
    }

    private static void onePairOfAssignmentsIsEnough() {
        for (int n = 1; n <= 5; n++) {
            for (int a = 0; a < 1 << n; a++) {
                OrderFinder x = new OrderFinder(n);
                x.flip(a % FUNCTIONS, a);
                due("n=" + n + ", 1 for " + a + " alone: size()", x.size(), n);
                for (int p = 0; p < n; p++) {
                    due("n=" + n + ", 1 for " + a + " alone: width(" + p + ")", x.width(p), 1);
                }
                OrderFinder y = new OrderFinder(n);
                y.load(0, -1);
                y.flip(0, a);
                due("n=" + n + ", 0 for " + a + " alone: size()", y.size(), n);
                due("n=" + n + ", 0 for " + a + " alone: least()", y.least(), n);
                due("n=" + n + ", 0 for " + a + " alone: greatest()", y.greatest(), n);
            }
        }
    }

    private static void emptyDiagram() {
        for (int n = 1; n <= 5; n++) {
            OrderFinder x = new OrderFinder(n);
            x.load(0, -1);
            x.load(2, -1);
            due("n=" + n + ", constants: size()", x.size(), 0);
            due("n=" + n + ", constants: least()", x.least(), 0);
            due("n=" + n + ", constants: greatest()", x.greatest(), 0);
            for (int p = 0; p < n; p++) {
                due("n=" + n + ", constants: width(" + p + ")", x.width(p), 0);
                due("n=" + n + ", constants: leastWith(0, " + p + ")", x.leastWith(0, p), 0);
            }
        }
    }

    /**
     * No diagram can be larger: at place p there are at most 3 * 2^p rest functions, and of the
     * functions of one variable 2, of those of two variables 12 depend on the first.
     */
    private static void fullestDiagram() {
        int[][] fullest = {{2}, {3, 2}, {3, 6, 2}, {3, 6, 12, 2}, {3, 6, 12, 12, 2}};
        for (int n = 1; n <= 5; n++) {
            OrderFinder x = new OrderFinder(n);
            for (int f = 0; f < FUNCTIONS; f++) {
                due("load", x.load(f, fullestTable(n, f)), 0);
            }
            dueWidths(x, "fullest diagram of n=" + n, fullest[n - 1]);
            int sum = 0;
            for (int width : fullest[n - 1]) {
                sum += width;
            }
            due("fullest diagram of n=" + n + ": size()", x.size(), sum);
            due("fullest diagram of n=" + n + ": greatest()", x.greatest(), sum);
        }
    }

    private static int fullestTable(int n, int function) {
        if (n == 1) {
            return new int[] {2, 1, 0}[function];
        }
        if (n == 2) {
            return new int[] {0x8, 0x6, 0xE}[function];
        }
        int bits = 0;
        for (int a = 0; a < 1 << n; a++) {
            bits |= fullestValue(n, function, a) << a;
        }
        return bits;
    }

    /** The first variables choose, without a choice made twice, which function of the last two is left. */
    private static int fullestValue(int n, int function, int a) {
        int[] dependOnTheFirst = {1, 2, 4, 6, 7, 8, 9, 11, 13, 14, 5, 10};
        int x0 = a & 1;
        int x1 = (a >> 1) & 1;
        int x2 = (a >> 2) & 1;
        int chosen = n == 3 ? 2 * function + x0 : 4 * function + 2 * x0 + x1;
        if (n == 5) {
            chosen = (chosen + x2) % 12;
        }
        return (dependOnTheFirst[chosen] >> (a >> (n - 2))) & 1;
    }

    private static void bestHasLeastVariableFirst() {
        for (int n = 1; n <= 5; n++) {
            OrderFinder x = new OrderFinder(n);
            due("n=" + n + ", every order the same: best(0)", x.best(0), 0);
            x.load(0, 0x96696996);
            due("n=" + n + ", parity: best(0)", x.best(0), 0);
            x.swap(0, n - 1);
            due("n=" + n + ", parity, present order turned: best(0)", x.best(0), 0);
        }
        // Of least size first: the chooser must stand before what it chooses, though it is the greatest.
        OrderFinder y = new OrderFinder(3);
        y.load(0, 0xCA);
        due("x2 chooses x0 or x1: best(0)", y.best(0), 2);
        // x0 is in no function, so it may stand first.
        OrderFinder z = new OrderFinder(4);
        z.load(0, 0xF0CC);
        due("x3 chooses x1 or x2: best(0)", z.best(0), 0);
        due("x3 chooses x1 or x2: best(1)", z.best(1), 3);
    }

    private static void bestHasLeastVariablesAfterwards() {
        for (int n = 1; n <= 5; n++) {
            int[] inTurn = {0, 1, 2, 3, 4};
            OrderFinder x = new OrderFinder(n);
            dueBest(x, n, "every order the same", inTurn);
            x.load(0, 0x80000000 >> (32 - (1 << n)));
            dueBest(x, n, "an and of all", inTurn);
            x.swap(0, n - 1);
            dueBest(x, n, "an and of all, present order turned", inTurn);
        }
        // Pairs (0, 2) and (1, 3): 1 on place 1 would part the pair, though it is less than 2.
        OrderFinder y = new OrderFinder(4);
        y.load(0, 0xECA0);
        dueBest(y, 4, "pairs (0, 2) and (1, 3)", 0, 2, 1, 3);
        // Pairs (0, 3) and (1, 2).
        y.load(0, 0xEAC0);
        dueBest(y, 4, "pairs (0, 3) and (1, 2)", 0, 3, 1, 2);
        // x3 chooses x0 or (x1 and x2).
        y.load(0, 0xC0AA);
        dueBest(y, 4, "x3 chooses", 3, 0, 1, 2);
        OrderFinder z = new OrderFinder(3);
        z.load(0, 0xCA);
        dueBest(z, 3, "x2 chooses x0 or x1", 2, 0, 1);
        // x4 must stand before x0 and x1; x2 and x3 may stand anywhere, so they go first.
        OrderFinder w = new OrderFinder(5);
        w.load(0, 0xCCCCAAAA);
        dueBest(w, 5, "x4 chooses x0 or x1", 2, 3, 4, 0, 1);
    }

    private static void presentOrderAtTheStart() {
        for (int n = 1; n <= 5; n++) {
            OrderFinder x = new OrderFinder(n);
            for (int p = 0; p < n; p++) {
                due("n=" + n + ": at(" + p + ")", x.at(p), p);
            }
            due("n=" + n + ": at(n)", x.at(n), -1);
        }
    }

    private static void refusedFunctions() {
        for (int n = 1; n <= 5; n++) {
            for (int bad : outside(FUNCTIONS)) {
                OrderFinder x = prepared(n);
                due("n=" + n + ": load(" + bad + ", 0x0F1E2D3C)", x.load(bad, 0x0F1E2D3C), -1);
                due("n=" + n + ": load(" + bad + ", 0)", x.load(bad, 0), -1);
                due("n=" + n + ": flip(" + bad + ", 0)", x.flip(bad, 0), -1);
                due("n=" + n + ": flip(" + bad + ", 2^n - 1)", x.flip(bad, (1 << n) - 1), -1);
                due("n=" + n + ": value(" + bad + ", 0)", x.value(bad, 0), -1);
                dueUnchanged(x, n, "function " + bad);
            }
        }
    }

    private static void refusedAssignments() {
        for (int n = 1; n <= 5; n++) {
            for (int bad : outside(1 << n)) {
                OrderFinder x = prepared(n);
                for (int f = 0; f < FUNCTIONS; f++) {
                    due("n=" + n + ": flip(" + f + ", " + bad + ")", x.flip(f, bad), -1);
                    due("n=" + n + ": value(" + f + ", " + bad + ")", x.value(f, bad), -1);
                }
                dueUnchanged(x, n, "assignment " + bad);
            }
        }
    }

    private static void refusedPlaces() {
        for (int n = 1; n <= 5; n++) {
            for (int bad : outside(n)) {
                OrderFinder x = prepared(n);
                for (int good = 0; good < n; good++) {
                    due("n=" + n + ": swap(" + good + ", " + bad + ")", x.swap(good, bad), -1);
                    due("n=" + n + ": swap(" + bad + ", " + good + ")", x.swap(bad, good), -1);
                }
                due("n=" + n + ": at(" + bad + ")", x.at(bad), -1);
                due("n=" + n + ": width(" + bad + ")", x.width(bad), -1);
                due("n=" + n + ": best(" + bad + ")", x.best(bad), -1);
                due("n=" + n + ": leastWith(0, " + bad + ")", x.leastWith(0, bad), -1);
                due("n=" + n + ": leastWith(n-1, " + bad + ")", x.leastWith(n - 1, bad), -1);
                dueUnchanged(x, n, "place " + bad);
            }
        }
    }

    private static void refusedVariables() {
        for (int n = 1; n <= 5; n++) {
            for (int bad : outside(n)) {
                OrderFinder x = prepared(n);
                due("n=" + n + ": leastWith(" + bad + ", 0)", x.leastWith(bad, 0), -1);
                due("n=" + n + ": leastWith(" + bad + ", n-1)", x.leastWith(bad, n - 1), -1);
                dueUnchanged(x, n, "variable " + bad);
            }
        }
    }

    private static void refusedInBothArguments() {
        for (int n = 1; n <= 5; n++) {
            for (int bad : outside(32)) {
                OrderFinder x = prepared(n);
                due("n=" + n + ": flip(" + bad + ", " + bad + ")", x.flip(bad, bad), -1);
                due("n=" + n + ": value(" + bad + ", " + bad + ")", x.value(bad, bad), -1);
                due("n=" + n + ": swap(" + bad + ", " + bad + ")", x.swap(bad, bad), -1);
                due("n=" + n + ": leastWith(" + bad + ", " + bad + ")", x.leastWith(bad, bad), -1);
                dueUnchanged(x, n, "both " + bad);
            }
            OrderFinder y = prepared(n);
            due("n=" + n + ": flip(3, 2^n)", y.flip(3, 1 << n), -1);
            due("n=" + n + ": value(3, 2^n)", y.value(3, 1 << n), -1);
            due("n=" + n + ": swap(n, n)", y.swap(n, n), -1);
            due("n=" + n + ": swap(-1, n)", y.swap(-1, n), -1);
            due("n=" + n + ": leastWith(n, n)", y.leastWith(n, n), -1);
            due("n=" + n + ": leastWith(-1, -1)", y.leastWith(-1, -1), -1);
            dueUnchanged(y, n, "both just outside");
        }
    }

    // ---- Promises

    private static void numberOfVariablesIsBroughtIntoRange() {
        int[] asked = {Integer.MIN_VALUE, -65535, -255, -31, -5, -1, 0, 1, 2, 3, 4, 5, 6, 7, 8, 31, 32, 33, 257, 65537, Integer.MAX_VALUE};
        int[] kept = {1, 1, 1, 1, 1, 1, 1, 1, 2, 3, 4, 5, 5, 5, 5, 5, 5, 5, 5, 5, 5};
        for (int i = 0; i < asked.length; i++) {
            OrderFinder x = new OrderFinder(asked[i]);
            int n = kept[i];
            String made = "new OrderFinder(" + asked[i] + "): ";
            due(made + "at(" + (n - 1) + ")", x.at(n - 1), n - 1);
            due(made + "at(" + n + ")", x.at(n), -1);
            due(made + "value(0, " + ((1 << n) - 1) + ")", x.value(0, (1 << n) - 1), 0);
            due(made + "value(0, " + (1 << n) + ")", x.value(0, 1 << n), -1);
            x.load(0, 0x96696996);
            due(made + "size() of parity", x.size(), 2 * n - 1);
            due(made + "least() of parity", x.least(), 2 * n - 1);
            due(made + "greatest() of parity", x.greatest(), 2 * n - 1);
            due(made + "best(" + (n - 1) + ")", x.best(n - 1), n - 1);
            due(made + "best(" + n + ")", x.best(n), -1);
            due(made + "leastWith(n-1, 0)", x.leastWith(n - 1, 0), 2 * n - 1);
            due(made + "leastWith(n, 0)", x.leastWith(n, 0), -1);
        }
    }

    private static void loadOfEveryBit() {
        for (int n = 1; n <= 5; n++) {
            for (int bit = 0; bit < 1 << n; bit++) {
                OrderFinder x = new OrderFinder(n);
                int f = bit % FUNCTIONS;
                x.load(f, -1);
                due("load(" + f + ", 1 << " + bit + ")", x.load(f, 1 << bit), 0);
                for (int a = 0; a < 1 << n; a++) {
                    due("n=" + n + ", bit " + bit + ": value(" + f + ", " + a + ")", x.value(f, a), a == bit ? 1 : 0);
                    due("n=" + n + ", bit " + bit + ": value of another", x.value((f + 1) % FUNCTIONS, a), 0);
                }
            }
        }
    }

    private static void higherBitsAreNotLookedAt() {
        for (int n = 1; n <= 4; n++) {
            int end = 1 << n;
            for (int bit = end; bit < 32; bit++) {
                OrderFinder x = new OrderFinder(n);
                due("n=" + n + ": load(0, 1 << " + bit + ")", x.load(0, 1 << bit), 0);
                for (int a = 0; a < end; a++) {
                    due("n=" + n + ", bit " + bit + ": value(0, " + a + ")", x.value(0, a), 0);
                }
                due("n=" + n + ", bit " + bit + ": value(0, bit)", x.value(0, bit), -1);
                due("n=" + n + ", bit " + bit + ": flip(0, bit)", x.flip(0, bit), -1);
                due("n=" + n + ", bit " + bit + ": size()", x.size(), 0);
                due("n=" + n + ", bit " + bit + ": greatest()", x.greatest(), 0);
            }
            // Parity with other higher bits each time is the same function three times.
            int low = (1 << end) - 1;
            OrderFinder y = new OrderFinder(n);
            y.load(0, 0x96696996 & low);
            y.load(1, 0x96696996 | ~low);
            y.load(2, (0x96696996 & low) | (0x5A5A1234 & ~low));
            due("n=" + n + ", parity under higher bits: size()", y.size(), 2 * n - 1);
            due("n=" + n + ", parity under higher bits: least()", y.least(), 2 * n - 1);
            due("n=" + n + ", parity under higher bits: greatest()", y.greatest(), 2 * n - 1);
            due("n=" + n + ", parity under higher bits: leastWith(0, n-1)", y.leastWith(0, n - 1), 2 * n - 1);
            for (int p = 0; p < n; p++) {
                due("n=" + n + ", parity under higher bits: width(" + p + ")", y.width(p), p == 0 ? 1 : 2);
                due("n=" + n + ", parity under higher bits: best(" + p + ")", y.best(p), p);
            }
            due("n=" + n + ", under higher bits: flip(1, 0)", y.flip(1, 0), 1);
            due("n=" + n + ", under higher bits: flip(1, 0) back", y.flip(1, 0), 0);
            due("n=" + n + ", parity after flips there and back: size()", y.size(), 2 * n - 1);
        }
        // For n = 5 there are no higher bits: the highest one counts.
        OrderFinder z = new OrderFinder(5);
        z.load(0, 0x80000000);
        due("n=5: value(0, 31)", z.value(0, 31), 1);
        due("n=5: size()", z.size(), 5);
    }

    private static void loadAnswers() {
        int[] patterns = {0, 1, -1, Integer.MIN_VALUE, Integer.MAX_VALUE, 0x96696996};
        for (int n = 1; n <= 5; n++) {
            OrderFinder x = new OrderFinder(n);
            for (int bits : patterns) {
                due("load(0, " + bits + ")", x.load(0, bits), 0);
                due("load(2, " + bits + ")", x.load(2, bits), 0);
                due("load(3, " + bits + ")", x.load(3, bits), -1);
                due("load(-1, " + bits + ")", x.load(-1, bits), -1);
            }
        }
    }

    private static void flipThereAndBack() {
        for (int n = 1; n <= 5; n++) {
            for (int f = 0; f < FUNCTIONS; f++) {
                OrderFinder x = new OrderFinder(n);
                for (int a = 0; a < 1 << n; a++) {
                    due("n=" + n + ": flip(" + f + ", " + a + ")", x.flip(f, a), 1);
                    due("n=" + n + ": value(" + f + ", " + a + ")", x.value(f, a), 1);
                }
                due("n=" + n + ", all turned: size()", x.size(), 0);
                for (int a = 0; a < 1 << n; a++) {
                    due("n=" + n + ": flip(" + f + ", " + a + ") back", x.flip(f, a), 0);
                    due("n=" + n + ": value(" + f + ", " + a + ") back", x.value(f, a), 0);
                    due("n=" + n + ": value of another", x.value((f + 1) % FUNCTIONS, a), 0);
                }
                due("n=" + n + ": flip(" + f + ", -1)", x.flip(f, -1), -1);
                due("n=" + n + ": flip(" + f + ", 2^n)", x.flip(f, 1 << n), -1);
            }
        }
    }

    private static void valueOfEveryAssignment() {
        OrderFinder x = new OrderFinder(5);
        x.load(0, 0x80000001);
        x.load(1, 0x7FFFFFFE);
        for (int a = 0; a < 32; a++) {
            boolean edge = a == 0 || a == 31;
            due("value(0, " + a + ")", x.value(0, a), edge ? 1 : 0);
            due("value(1, " + a + ")", x.value(1, a), edge ? 0 : 1);
        }
        // The values are the function's own: no order has a say in them, and reading changes nothing.
        x.swap(0, 4);
        due("value(0, 31) after a swap", x.value(0, 31), 1);
        due("value(0, 1) after a swap", x.value(0, 1), 0);
        due("value(0, 16) after a swap", x.value(0, 16), 0);
        due("value(0, 32)", x.value(0, 32), -1);
        due("value(0, -1)", x.value(0, -1), -1);
        due("value(3, 0)", x.value(3, 0), -1);
        due("value(-1, 0)", x.value(-1, 0), -1);
    }

    private static void swapAtTheEdges() {
        for (int n = 1; n <= 5; n++) {
            OrderFinder x = new OrderFinder(n);
            due("n=" + n + ": swap(0, n-1)", x.swap(0, n - 1), 0);
            for (int p = 0; p < n; p++) {
                int want = p == 0 ? n - 1 : p == n - 1 ? 0 : p;
                due("n=" + n + ", first and last changed: at(" + p + ")", x.at(p), want);
            }
            due("n=" + n + ": swap(n-1, 0)", x.swap(n - 1, 0), 0);
            for (int p = 0; p < n; p++) {
                due("n=" + n + ": swap(p, p)", x.swap(p, p), 0);
            }
            for (int p = 0; p < n; p++) {
                due("n=" + n + ", changed back: at(" + p + ")", x.at(p), p);
            }
            due("n=" + n + ": swap(0, n)", x.swap(0, n), -1);
            due("n=" + n + ": swap(n, 0)", x.swap(n, 0), -1);
            due("n=" + n + ": swap(0, -1)", x.swap(0, -1), -1);
            due("n=" + n + ": swap(-1, 0)", x.swap(-1, 0), -1);
        }
        // The numbers are places: after the first change, place 0 holds variable 2.
        OrderFinder y = new OrderFinder(3);
        y.swap(0, 2);
        y.swap(0, 1);
        due("at(0)", y.at(0), 1);
        due("at(1)", y.at(1), 2);
        due("at(2)", y.at(2), 0);
    }

    private static void atTheEdges() {
        for (int n = 1; n <= 5; n++) {
            OrderFinder x = new OrderFinder(n);
            x.swap(0, n - 1);
            due("n=" + n + ": at(0)", x.at(0), n - 1);
            due("n=" + n + ": at(n-1)", x.at(n - 1), 0);
            due("n=" + n + ": at(-1)", x.at(-1), -1);
            due("n=" + n + ": at(n)", x.at(n), -1);
        }
    }

    private static void widthAtTheEdges() {
        for (int n = 1; n <= 5; n++) {
            OrderFinder x = new OrderFinder(n);
            x.load(0, SINGLE[0]);
            x.load(1, ~SINGLE[0]);
            due("n=" + n + ": width(0)", x.width(0), 2);
            x.swap(0, n - 1);
            due("n=" + n + ": width(n-1) after a swap", x.width(n - 1), 2);
            if (n > 1) {
                due("n=" + n + ": width(0) after a swap", x.width(0), 0);
            }
            due("n=" + n + ": width(-1)", x.width(-1), -1);
            due("n=" + n + ": width(n)", x.width(n), -1);
        }
    }

    private static void sizeFollowsThePresentOrder() {
        OrderFinder x = new OrderFinder(3);
        x.load(0, 0xCA);
        due("chooser x2 last: size()", x.size(), 5);
        x.swap(1, 2);
        due("chooser x2 in the middle: size()", x.size(), 4);
        x.swap(0, 1);
        due("chooser x2 first: size()", x.size(), 3);
        x.swap(2, 2);
        due("after swap(2, 2): size()", x.size(), 3);
        x.swap(0, 3);
        due("after a refused swap: size()", x.size(), 3);
        x.load(0, 0);
        due("no function: size()", x.size(), 0);
    }

    private static void leastIsOverAllOrders() {
        // The only order.
        OrderFinder x = new OrderFinder(1);
        x.load(0, 2);
        x.load(1, 1);
        due("n=1: least()", x.least(), 2);
        // The pairs (0, 3) and (1, 4) stand together in no order near the present one.
        OrderFinder y = new OrderFinder(5);
        y.load(0, (SINGLE[0] & SINGLE[3]) | (SINGLE[1] & SINGLE[4]));
        due("pairs apart: size()", y.size(), 6);
        due("pairs apart: least()", y.least(), 4);
        // The present order is the least one already, then the greatest.
        OrderFinder z = new OrderFinder(4);
        z.load(0, 0xF888);
        due("present order least: least()", z.least(), 4);
        z.swap(1, 2);
        due("present order greatest: least()", z.least(), 4);
        due("least() leaves the present order: size()", z.size(), 6);
    }

    private static void bestAtTheEdges() {
        for (int n = 1; n <= 5; n++) {
            OrderFinder x = new OrderFinder(n);
            x.load(0, 0x96696996);
            x.swap(0, n - 1);
            due("n=" + n + ": best(0)", x.best(0), 0);
            due("n=" + n + ": best(n-1)", x.best(n - 1), n - 1);
            due("n=" + n + ": best(-1)", x.best(-1), -1);
            due("n=" + n + ": best(n)", x.best(n), -1);
            due("n=" + n + ": best leaves the present order: at(0)", x.at(0), n - 1);
        }
    }

    private static void greatestIsOverAllOrders() {
        OrderFinder x = new OrderFinder(1);
        x.load(0, 2);
        x.load(1, 1);
        due("n=1: greatest()", x.greatest(), 2);
        OrderFinder y = new OrderFinder(5);
        y.load(0, (SINGLE[0] & SINGLE[1]) | (SINGLE[3] & SINGLE[4]));
        due("pairs together: size()", y.size(), 4);
        due("pairs together: greatest()", y.greatest(), 6);
        // The present order is the greatest one already.
        OrderFinder z = new OrderFinder(4);
        z.load(0, 0xECA0);
        due("present order greatest: greatest()", z.greatest(), 6);
        z.swap(1, 2);
        due("present order least: greatest()", z.greatest(), 6);
        due("greatest() leaves the present order: size()", z.size(), 4);
    }

    private static void leastWithAtTheEdges() {
        for (int n = 2; n <= 5; n++) {
            OrderFinder x = new OrderFinder(n);
            int last = n - 1;
            x.load(0, SINGLE[0] & SINGLE[last]);
            x.load(1, SINGLE[0]);
            // With x0 last, x0 alone is a rest function of both; with x0 first, the two are different there.
            due("n=" + n + ": leastWith(0, n-1)", x.leastWith(0, last), 2);
            due("n=" + n + ": leastWith(0, 0)", x.leastWith(0, 0), 3);
            due("n=" + n + ": leastWith(n-1, 0)", x.leastWith(last, 0), 2);
            due("n=" + n + ": leastWith(n-1, n-1)", x.leastWith(last, last), 3);
            due("n=" + n + ": leastWith(0, n)", x.leastWith(0, n), -1);
            due("n=" + n + ": leastWith(n, 0)", x.leastWith(n, 0), -1);
            due("n=" + n + ": leastWith(0, -1)", x.leastWith(0, -1), -1);
            due("n=" + n + ": leastWith(-1, 0)", x.leastWith(-1, 0), -1);
        }
        // x2 chooses x0 or x1.
        OrderFinder y = new OrderFinder(3);
        y.load(0, 0xCA);
        int[][] wanted = {{4, 3, 3}, {4, 3, 3}, {3, 4, 5}};
        for (int v = 0; v < 3; v++) {
            for (int p = 0; p < 3; p++) {
                due("x2 chooses: leastWith(" + v + ", " + p + ")", y.leastWith(v, p), wanted[v][p]);
            }
        }
        due("x2 chooses: least() afterwards", y.least(), 3);
        due("x2 chooses: at(0) afterwards", y.at(0), 0);
    }

    private static void leastWithTheOnlyOrder() {
        OrderFinder x = new OrderFinder(1);
        x.load(0, 1);
        due("n=1: leastWith(0, 0)", x.leastWith(0, 0), 1);
        due("n=1: leastWith(1, 0)", x.leastWith(1, 0), -1);
        due("n=1: leastWith(0, 1)", x.leastWith(0, 1), -1);
    }

    // ---- Helpers

    /** Numbers outside 0 to end - 1: just outside, and such as a shift, a byte or a short would bring back inside. */
    private static int[] outside(int end) {
        return new int[] {-1, -2, -end, end, end + 1, 32, 33, 64, -31, -32, 255, 256, 257, -255, -256, 65536, 65537,
            -65536, Integer.MAX_VALUE, Integer.MAX_VALUE - 1, Integer.MIN_VALUE, Integer.MIN_VALUE + 1};
    }

    private static OrderFinder prepared(int n) {
        OrderFinder x = new OrderFinder(n);
        x.load(0, 0x6AC1F309);
        x.load(1, 0x13579BDF);
        x.load(2, 0xFEDCBA98);
        x.swap(0, n - 1);
        return x;
    }

    private static void dueUnchanged(OrderFinder x, int n, String what) {
        boolean same = allAnswers(x, n).equals(allAnswers(prepared(n), n));
        due("n=" + n + ", " + what + ": unchanged (1 is yes)", same ? 1 : 0, 1);
    }

    private static String allAnswers(OrderFinder x, int n) {
        StringBuilder answers = new StringBuilder();
        for (int f = 0; f < FUNCTIONS; f++) {
            for (int a = 0; a < 1 << n; a++) {
                answers.append(x.value(f, a)).append(' ');
            }
        }
        for (int p = 0; p < n; p++) {
            answers.append(x.at(p)).append(' ').append(x.width(p)).append(' ').append(x.best(p)).append(' ');
            answers.append(x.leastWith(0, p)).append(' ').append(x.leastWith(n - 1, p)).append(' ');
        }
        return answers.append(x.size()).append(' ').append(x.least()).append(' ').append(x.greatest()).toString();
    }

    private static void dueWidths(OrderFinder x, String what, int... widths) {
        for (int p = 0; p < widths.length; p++) {
            due(what + ": width(" + p + ")", x.width(p), widths[p]);
        }
    }

    private static void dueBest(OrderFinder x, int n, String what, int... order) {
        for (int p = 0; p < n; p++) {
            due("n=" + n + ", " + what + ": best(" + p + ")", x.best(p), order[p]);
        }
    }
}
