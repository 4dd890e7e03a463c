public final class OrderFinder {
    private static final int MOST_VARIABLES = 5;
    private static final int FUNCTIONS = 3;
    // A set of variables and an assignment are both one bit for each variable, so there are as many of each.
    private static final int MOST_ASSIGNMENTS = 32;
    private static final int MOST_RESTS = 96;
    private static final int REFUSED = -1;
    // Neither a variable nor a place, so it pins nothing.
    private static final int FREE = -1;
    // Above every size, and far enough from the end of int that a width can be added.
    private static final int NO_ORDER = 1000000;

    private final int variables;
    private final int assignments;
    private final int[] table = new int[FUNCTIONS];
    private final int[] order = new int[MOST_VARIABLES];
    private final int[] rests = new int[MOST_RESTS];
    private int restCount;
    // For each set of variables already placed: the least, or greatest, sum of the widths at the places that follow.
    private final int[] remaining = new int[MOST_ASSIGNMENTS];

    public OrderFinder(int variables) {
        int kept = variables;
        if (kept < 1) {
            kept = 1;
        }
        if (kept > MOST_VARIABLES) {
            kept = MOST_VARIABLES;
        }
        this.variables = kept;
        this.assignments = 1 << kept;
        for (int place = 0; place < MOST_VARIABLES; place++) {
            order[place] = place;
        }
    }

    public int load(int function, int bits) {
        if (!isFunction(function)) {
            return REFUSED;
        }
        table[function] = bits;
        return 0;
    }

    public int flip(int function, int assignment) {
        if (!isFunction(function) || !isAssignment(assignment)) {
            return REFUSED;
        }
        table[function] ^= 1 << assignment;
        return bitOf(table[function], assignment);
    }

    public int value(int function, int assignment) {
        if (!isFunction(function) || !isAssignment(assignment)) {
            return REFUSED;
        }
        return bitOf(table[function], assignment);
    }

    public int swap(int p, int q) {
        if (!isVariableOrPlace(p) || !isVariableOrPlace(q)) {
            return REFUSED;
        }
        int moved = order[p];
        order[p] = order[q];
        order[q] = moved;
        return 0;
    }

    public int at(int place) {
        if (!isVariableOrPlace(place)) {
            return REFUSED;
        }
        return order[place];
    }

    public int width(int place) {
        if (!isVariableOrPlace(place)) {
            return REFUSED;
        }
        int before = 0;
        for (int p = 0; p < place; p++) {
            before |= 1 << order[p];
        }
        return widthAfter(before, order[place]);
    }

    public int size() {
        int sum = 0;
        int before = 0;
        for (int place = 0; place < variables; place++) {
            sum += widthAfter(before, order[place]);
            before |= 1 << order[place];
        }
        return sum;
    }

    public int least() {
        fillLeast(FREE, FREE);
        return remaining[0];
    }

    public int best(int place) {
        if (!isVariableOrPlace(place)) {
            return REFUSED;
        }
        fillLeast(FREE, FREE);
        int before = 0;
        for (int p = 0; p < place; p++) {
            before |= 1 << bestAfter(before);
        }
        return bestAfter(before);
    }

    public int greatest() {
        remaining[assignments - 1] = 0;
        for (int before = assignments - 2; before >= 0; before--) {
            remaining[before] = greatestAfter(before);
        }
        return remaining[0];
    }

    public int leastWith(int variable, int place) {
        if (!isVariableOrPlace(variable) || !isVariableOrPlace(place)) {
            return REFUSED;
        }
        fillLeast(variable, place);
        return remaining[0];
    }

    private boolean isFunction(int function) {
        return function >= 0 && function < FUNCTIONS;
    }

    private boolean isAssignment(int assignment) {
        return assignment >= 0 && assignment < assignments;
    }

    // Variables and places have the same range.
    private boolean isVariableOrPlace(int number) {
        return number >= 0 && number < variables;
    }

    private int bitOf(int bits, int index) {
        return (bits >>> index) & 1;
    }

    // A width depends on which variables stand before the place, not on their order among
    // themselves; so sets of variables are searched, not all orders. A set is a smaller number
    // than every set that contains it, so going down meets the larger sets first.
    private void fillLeast(int pinnedVariable, int pinnedPlace) {
        remaining[assignments - 1] = 0;
        for (int before = assignments - 2; before >= 0; before--) {
            remaining[before] = leastAfter(before, pinnedVariable, pinnedPlace);
        }
    }

    private int leastAfter(int before, int pinnedVariable, int pinnedPlace) {
        boolean placeIsPinned = countOf(before) == pinnedPlace;
        int least = NO_ORDER;
        for (int variable = 0; variable < variables; variable++) {
            boolean isPinned = variable == pinnedVariable;
            if (bitOf(before, variable) == 0 && isPinned == placeIsPinned) {
                int sum = sumThrough(before, variable);
                if (sum < least) {
                    least = sum;
                }
            }
        }
        return least;
    }

    private int greatestAfter(int before) {
        int greatest = 0;
        for (int variable = 0; variable < variables; variable++) {
            if (bitOf(before, variable) == 0) {
                int sum = sumThrough(before, variable);
                if (sum > greatest) {
                    greatest = sum;
                }
            }
        }
        return greatest;
    }

    // The lowest variable that still leads to the least size; needs fillLeast without a pin.
    private int bestAfter(int before) {
        int found = 0;
        for (int variable = variables - 1; variable >= 0; variable--) {
            if (bitOf(before, variable) == 0) {
                int sum = sumThrough(before, variable);
                if (sum == remaining[before]) {
                    found = variable;
                }
            }
        }
        return found;
    }

    private int sumThrough(int before, int variable) {
        return widthAfter(before, variable) + remaining[before | (1 << variable)];
    }

    private int countOf(int set) {
        int count = 0;
        for (int variable = 0; variable < variables; variable++) {
            count += (set >>> variable) & 1;
        }
        return count;
    }

    // The width at the place of the variable when exactly the variables of the set stand before it.
    private int widthAfter(int before, int variable) {
        restCount = 0;
        for (int function = 0; function < FUNCTIONS; function++) {
            for (int fixed = 0; fixed < assignments; fixed++) {
                if ((fixed & ~before) == 0) {
                    int rest = restOf(table[function], before, fixed);
                    if (dependsOn(rest, variable)) {
                        noteRest(rest);
                    }
                }
            }
        }
        return restCount;
    }

    // Kept as a table over all assignments that ignores the fixed variables, so that two rest
    // functions are the same exactly when their tables are equal numbers.
    private int restOf(int bits, int before, int fixed) {
        int rest = 0;
        for (int assignment = 0; assignment < assignments; assignment++) {
            int source = (assignment & ~before) | fixed;
            rest |= ((bits >>> source) & 1) << assignment;
        }
        return rest;
    }

    private boolean dependsOn(int rest, int variable) {
        for (int assignment = 0; assignment < assignments; assignment++) {
            int other = assignment ^ (1 << variable);
            if (((rest >>> assignment) & 1) != ((rest >>> other) & 1)) {
                return true;
            }
        }
        return false;
    }

    private void noteRest(int rest) {
        for (int i = 0; i < restCount; i++) {
            if (rests[i] == rest) {
                return;
            }
        }
        if (restCount < MOST_RESTS) {
            rests[restCount] = rest;
            restCount++;
        }
    }
}
