import java.util.ArrayList;
import java.util.HashSet;
import java.util.List;
import java.util.Set;

/**
 * Every three functions of one and two variables and long runs of calls, compared with a second
 * program that goes through all orders and writes every rest function out as the document defines
 * it. The runs come from a fixed sequence of numbers.
 */
public final class DefinitionTest {
    private static final int RUNS_FOR_EACH_N = 24;
    /** As many as an object is used for. */
    private static final int CALLS = 512;
    private static final int KINDS_OF_TABLES = 6;
    private static final int[] SINGLE = {0xAAAAAAAA, 0xCCCCCCCC, 0xF0F0F0F0, 0xFF00FF00, 0xFFFF0000};
    private static final int[] ELSEWHERE = {Integer.MIN_VALUE, -32, -2, 5, 32, 33, 64, Integer.MAX_VALUE};

    private static int wrong = 0;
    private static long sequence = 20261115L;

    private final int n;
    private final boolean[][] functions;
    private final int[] order;
    private final List<int[]> allOrders = new ArrayList<>();
    private int[] sizes;

    private DefinitionTest(int n) {
        this.n = n;
        functions = new boolean[3][1 << n];
        order = new int[n];
        for (int p = 0; p < n; p++) {
            order[p] = p;
        }
        addOrders(new int[n], 0);
    }

    public static void main(String[] args) {
        everyThreeFunctions(1);
        everyThreeFunctions(2);
        everyFunctionOfThreeVariables();
        for (int n = 1; n <= 5; n++) {
            for (int run = 0; run < RUNS_FOR_EACH_N; run++) {
                new DefinitionTest(n).compare(run);
            }
        }
        System.out.println(wrong == 0 ? "all answers are as due" : wrong + " answers are not as due");
        if (wrong != 0) {
            System.exit(1);
        }
    }

    private static void everyThreeFunctions(int n) {
        int tables = 1 << (1 << n);
        for (int first = 0; first < tables; first++) {
            for (int second = 0; second < tables; second++) {
                for (int third = 0; third < tables; third++) {
                    new DefinitionTest(n).compareAnswers(first, second, third);
                }
            }
        }
    }

    private static void everyFunctionOfThreeVariables() {
        for (int bits = 0; bits < 256; bits++) {
            new DefinitionTest(3).compareAnswers(bits, 0, 0);
            new DefinitionTest(3).compareAnswers(bits, 0xCA, 255 - bits);
        }
    }

    /** All that can be asked of the three functions, the order turned by a swap after the first time. */
    private void compareAnswers(int first, int second, int third) {
        OrderFinder x = new OrderFinder(n);
        String where = "n=" + n + " functions " + first + ", " + second + ", " + third + ": ";
        due(where + "load(0)", x.load(0, first), load(0, first));
        due(where + "load(1)", x.load(1, second), load(1, second));
        due(where + "load(2)", x.load(2, third), load(2, third));
        for (int time = 0; time < 2; time++) {
            due(where + "size()", x.size(), size(order));
            due(where + "least()", x.least(), extreme(-1, -1, false));
            due(where + "greatest()", x.greatest(), extreme(-1, -1, true));
            for (int place = 0; place < n; place++) {
                due(where + "width(" + place + ")", x.width(place), width(order, place));
                due(where + "best(" + place + ")", x.best(place), best()[place]);
                for (int variable = 0; variable < n; variable++) {
                    due(where + "leastWith(" + variable + ", " + place + ")", x.leastWith(variable, place),
                            extreme(variable, place, false));
                }
            }
            due(where + "swap(0, n-1)", x.swap(0, n - 1), swap(0, n - 1));
        }
    }

    private void compare(int run) {
        OrderFinder x = new OrderFinder(n);
        int kind = run % KINDS_OF_TABLES;
        for (int call = 0; call < CALLS; call++) {
            int which = next(11);
            // Long stretches between loads let flips and swaps add up.
            if (which == 0 && next(4) != 0) {
                which = 1;
            }
            int place = mostlyInRange(n);
            int other = mostlyInRange(n);
            int function = mostlyInRange(3);
            int assignment = mostlyInRange(1 << n);
            String where = "n=" + n + " run " + run + " call " + call + ": ";
            switch (which) {
                case 0: {
                    int bits = bitsOfKind(kind);
                    due(where + "load(" + function + ", " + bits + ")", x.load(function, bits), load(function, bits));
                    break;
                }
                case 1:
                    due(where + "flip(" + function + ", " + assignment + ")", x.flip(function, assignment), flip(function, assignment));
                    break;
                case 2:
                    due(where + "value(" + function + ", " + assignment + ")", x.value(function, assignment), value(function, assignment));
                    break;
                case 3:
                    due(where + "swap(" + place + ", " + other + ")", x.swap(place, other), swap(place, other));
                    break;
                case 4:
                    due(where + "at(" + place + ")", x.at(place), inPlaces(place) ? order[place] : -1);
                    break;
                case 5:
                    due(where + "width(" + place + ")", x.width(place), inPlaces(place) ? width(order, place) : -1);
                    break;
                case 6:
                    due(where + "size()", x.size(), size(order));
                    break;
                case 7:
                    due(where + "least()", x.least(), extreme(-1, -1, false));
                    break;
                case 8:
                    due(where + "best(" + place + ")", x.best(place), inPlaces(place) ? best()[place] : -1);
                    break;
                case 9:
                    due(where + "greatest()", x.greatest(), extreme(-1, -1, true));
                    break;
                default:
                    due(where + "leastWith(" + place + ", " + other + ")", x.leastWith(place, other),
                            inPlaces(place) && inPlaces(other) ? extreme(place, other, false) : -1);
                    break;
            }
        }
    }

    private int load(int function, int bits) {
        if (function < 0 || function > 2) {
            return -1;
        }
        for (int a = 0; a < functions[function].length; a++) {
            functions[function][a] = ((bits >> a) & 1) == 1;
        }
        sizes = null;
        return 0;
    }

    private int flip(int function, int assignment) {
        if (value(function, assignment) < 0) {
            return -1;
        }
        functions[function][assignment] = !functions[function][assignment];
        sizes = null;
        return value(function, assignment);
    }

    private int value(int function, int assignment) {
        if (function < 0 || function > 2 || assignment < 0 || assignment >= 1 << n) {
            return -1;
        }
        return functions[function][assignment] ? 1 : 0;
    }

    private int swap(int p, int q) {
        if (!inPlaces(p) || !inPlaces(q)) {
            return -1;
        }
        int kept = order[p];
        order[p] = order[q];
        order[q] = kept;
        return 0;
    }

    private boolean inPlaces(int place) {
        return place >= 0 && place < n;
    }

    /** Writes each rest function out over the variables from the place on, the place's own variable slowest. */
    private int width(int[] anOrder, int place) {
        Set<String> rests = new HashSet<>();
        int laterCount = n - place;
        for (boolean[] function : functions) {
            for (int fixed = 0; fixed < 1 << place; fixed++) {
                StringBuilder rest = new StringBuilder();
                for (int later = 0; later < 1 << laterCount; later++) {
                    int a = 0;
                    for (int p = 0; p < place; p++) {
                        a |= ((fixed >> p) & 1) << anOrder[p];
                    }
                    for (int p = place; p < n; p++) {
                        a |= ((later >> (n - 1 - p)) & 1) << anOrder[p];
                    }
                    rest.append(function[a] ? '1' : '0');
                }
                int half = rest.length() / 2;
                if (!rest.substring(0, half).equals(rest.substring(half))) {
                    rests.add(rest.toString());
                }
            }
        }
        return rests.size();
    }

    private int size(int[] anOrder) {
        int sum = 0;
        for (int p = 0; p < n; p++) {
            sum += width(anOrder, p);
        }
        return sum;
    }

    private void measureAllOrders() {
        if (sizes == null) {
            sizes = new int[allOrders.size()];
            for (int i = 0; i < sizes.length; i++) {
                sizes[i] = size(allOrders.get(i));
            }
        }
    }

    private int extreme(int variable, int place, boolean greatest) {
        measureAllOrders();
        int found = -1;
        for (int i = 0; i < sizes.length; i++) {
            boolean asked = variable < 0 || allOrders.get(i)[place] == variable;
            if (asked && (found < 0 || (greatest ? sizes[i] > found : sizes[i] < found))) {
                found = sizes[i];
            }
        }
        return found;
    }

    /** The orders are listed from the least on, so the first of least size is the best. */
    private int[] best() {
        int least = extreme(-1, -1, false);
        int i = 0;
        while (sizes[i] != least) {
            i++;
        }
        return allOrders.get(i);
    }

    private void addOrders(int[] begun, int place) {
        if (place == n) {
            allOrders.add(begun.clone());
            return;
        }
        for (int v = 0; v < n; v++) {
            boolean used = false;
            for (int p = 0; p < place; p++) {
                used |= begun[p] == v;
            }
            if (!used) {
                begun[place] = v;
                addOrders(begun, place + 1);
            }
        }
    }

    /** Evenly mixed tables hardly tell orders apart, so sparse and structured ones are drawn too. */
    private int bitsOfKind(int kind) {
        int bits = nextBits();
        switch (kind) {
            case 0:
                return bits;
            case 1:
                return bits & nextBits() & nextBits();
            case 2: {
                int v = SINGLE[next(5)];
                int w = SINGLE[next(5)];
                int u = SINGLE[next(5)];
                int t = SINGLE[next(5)];
                return next(2) == 0 ? (v & w) | (u & t) : (v & w) | (~v & (u ^ t));
            }
            case 3:
                return (bits & 0xFFFF) * 0x10001;
            case 4:
                return next(3) == 0 ? bits : bitsOfARelative();
            default:
                return bitsOfKind(next(KINDS_OF_TABLES - 1));
        }
    }

    /** A table that has rest functions in common with a function that the object holds. */
    private int bitsOfARelative() {
        boolean[] function = functions[next(3)];
        int variable = 1 << next(n);
        int change = next(5);
        int bits = 0;
        for (int a = 0; a < function.length; a++) {
            int source = change == 1 ? a | variable : change == 2 ? a & ~variable : change == 3 ? a ^ variable : a;
            bits |= function[source] != (change == 4) ? 1 << a : 0;
        }
        return bits;
    }

    /** Mostly from 0 to bound - 1; now and then next to that range, or anywhere. */
    private static int mostlyInRange(int bound) {
        switch (next(16)) {
            case 0:
                return -1;
            case 1:
                return bound;
            case 2:
                return ELSEWHERE[next(ELSEWHERE.length)];
            default:
                return next(bound);
        }
    }

    private static int nextBits() {
        sequence = sequence * 6364136223846793005L + 1442695040888963407L;
        return (int) (sequence >>> 32);
    }

    private static int next(int bound) {
        return (nextBits() >>> 1) % bound;
    }

    private static void due(String call, int got, int want) {
        if (got != want) {
            wrong++;
            if (wrong <= 50) {
                System.out.println(call + " answered " + got + ", due is " + want);
            }
        }
    }
}
