/** One group of checks for each promise, with answers worked out by hand from the document. */
public final class PromisesTest {
    private static final int[] OUT_OF_ANY_RANGE = {-1, -2, 32, 33, 64, 1000, Integer.MIN_VALUE, Integer.MAX_VALUE};
    /** Variable 0, 1, 2, 3, 4 alone, as functions of five variables. */
    private static final int[] SINGLE = {0xAAAAAAAA, 0xCCCCCCCC, 0xF0F0F0F0, 0xFF00FF00, 0xFFFF0000};

    private static int wrong = 0;

    private static void due(String call, int got, int want) {
        if (got != want) {
            wrong++;
            System.out.println(call + " answered " + got + ", due is " + want);
        }
    }

    public static void main(String[] args) {
        promise1NewObject();
        promise2Load();
        promise3Flip();
        promise4Value();
        promise5Swap();
        promise6At();
        promise7Width();
        promise8Size();
        promise9Least();
        promise10Best();
        promise11Greatest();
        promise12LeastWith();
        refusedCallsChangeNothing();
        objectsAreApart();
        System.out.println(wrong == 0 ? "all answers are as due" : wrong + " answers are not as due");
        if (wrong != 0) {
            System.exit(1);
        }
    }

    private static void promise1NewObject() {
        int[] asked = {Integer.MIN_VALUE, -1, 0, 1, 2, 3, 4, 5, 6, 7, 32, Integer.MAX_VALUE};
        int[] kept = {1, 1, 1, 1, 2, 3, 4, 5, 5, 5, 5, 5};
        for (int i = 0; i < asked.length; i++) {
            String made = "new OrderFinder(" + asked[i] + "): ";
            OrderFinder x = new OrderFinder(asked[i]);
            int n = kept[i];
            for (int p = 0; p < n; p++) {
                due(made + "at(" + p + ")", x.at(p), p);
                due(made + "width(" + p + ")", x.width(p), 0);
                due(made + "best(" + p + ")", x.best(p), p);
            }
            due(made + "at(n)", x.at(n), -1);
            for (int f = 0; f < 3; f++) {
                for (int a = 0; a < 1 << n; a++) {
                    due(made + "value(" + f + ", " + a + ")", x.value(f, a), 0);
                }
                due(made + "value(" + f + ", 2^n)", x.value(f, 1 << n), -1);
            }
            due(made + "size()", x.size(), 0);
            due(made + "least()", x.least(), 0);
            due(made + "greatest()", x.greatest(), 0);
            due(made + "leastWith(0, n-1)", x.leastWith(0, n - 1), 0);
        }
    }

    private static void promise2Load() {
        int[] patterns = {0, -1, 1, 0x80000000, 0x12345678, 0x9ABCDEF0, Integer.MAX_VALUE, -2};
        for (int n = 1; n <= 5; n++) {
            OrderFinder x = new OrderFinder(n);
            for (int i = 0; i < patterns.length; i++) {
                int f = i % 3;
                due("load", x.load(f, patterns[i]), 0);
                for (int a = 0; a < 1 << n; a++) {
                    due("n=" + n + " value after load " + patterns[i], x.value(f, a), (patterns[i] >> a) & 1);
                }
            }
            due("load(3, 0)", x.load(3, 0), -1);
            for (int f : OUT_OF_ANY_RANGE) {
                due("load(" + f + ", 0)", x.load(f, 0), -1);
            }
        }
        OrderFinder x = new OrderFinder(2);
        x.load(0, 0xFFFFFFF6);
        x.load(1, 0x00000006);
        x.load(2, 0x12345676);
        due("higher bits not looked at: size()", x.size(), 3);
        due("higher bits not looked at: least()", x.least(), 3);
        due("higher bits not looked at: greatest()", x.greatest(), 3);
        x = new OrderFinder(1);
        x.load(0, 0xFFFFFFFC);
        x.load(1, 0xAAAAAAAB);
        due("constants under higher bits: size()", x.size(), 0);
    }

    private static void promise3Flip() {
        for (int n = 1; n <= 5; n++) {
            OrderFinder x = new OrderFinder(n);
            int last = (1 << n) - 1;
            due("flip(1, 0)", x.flip(1, 0), 1);
            due("flip(1, last)", x.flip(1, last), 1);
            due("value(1, 0)", x.value(1, 0), 1);
            due("value(1, last)", x.value(1, last), 1);
            for (int a = 1; a < last; a++) {
                due("value(1, others)", x.value(1, a), 0);
            }
            for (int a = 0; a <= last; a++) {
                due("value(0, all)", x.value(0, a), 0);
                due("value(2, all)", x.value(2, a), 0);
            }
            due("flip(1, last) again", x.flip(1, last), 0);
            due("value(1, last) again", x.value(1, last), 0);
            due("value(1, 0) again", x.value(1, 0), 1);
            due("flip(0, 2^n)", x.flip(0, last + 1), -1);
            due("flip(3, 0)", x.flip(3, 0), -1);
            for (int bad : OUT_OF_ANY_RANGE) {
                due("flip(0, " + bad + ")", x.flip(0, bad), -1);
                due("flip(" + bad + ", 0)", x.flip(bad, 0), -1);
            }
        }
        OrderFinder x = new OrderFinder(2);
        x.load(0, 0xFFFFFFF0);
        due("flip under higher bits", x.flip(0, 3), 1);
        due("size() of an and", x.size(), 2);
        due("flip back", x.flip(0, 3), 0);
        due("size() of a constant", x.size(), 0);
    }

    private static void promise4Value() {
        OrderFinder x = new OrderFinder(5);
        x.load(0, 0x80000001);
        x.load(2, 0x00010000);
        due("value(0, 0)", x.value(0, 0), 1);
        due("value(0, 1)", x.value(0, 1), 0);
        due("value(0, 31)", x.value(0, 31), 1);
        due("value(1, 31)", x.value(1, 31), 0);
        due("value(2, 16)", x.value(2, 16), 1);
        x.swap(0, 4);
        due("value does not follow the order", x.value(2, 16), 1);
        due("value does not follow the order", x.value(2, 1), 0);
        for (int n = 1; n <= 5; n++) {
            OrderFinder y = new OrderFinder(n);
            y.load(0, -1);
            due("value(0, 2^n - 1)", y.value(0, (1 << n) - 1), 1);
            due("value(0, 2^n)", y.value(0, 1 << n), -1);
            due("value(3, 0)", y.value(3, 0), -1);
            for (int bad : OUT_OF_ANY_RANGE) {
                due("value(0, " + bad + ")", y.value(0, bad), -1);
                due("value(" + bad + ", 0)", y.value(bad, 0), -1);
                due("value(" + bad + ", " + bad + ")", y.value(bad, bad), -1);
            }
        }
    }

    private static void promise5Swap() {
        OrderFinder x = new OrderFinder(4);
        due("swap(0, 3)", x.swap(0, 3), 0);
        dueOrder(x, 3, 1, 2, 0);
        due("swap(1, 0): places, not variables", x.swap(1, 0), 0);
        dueOrder(x, 1, 3, 2, 0);
        due("swap(2, 3)", x.swap(2, 3), 0);
        dueOrder(x, 1, 3, 0, 2);
        due("swap(2, 2)", x.swap(2, 2), 0);
        dueOrder(x, 1, 3, 0, 2);
        due("swap(0, 4)", x.swap(0, 4), -1);
        due("swap(4, 0)", x.swap(4, 0), -1);
        due("swap(4, 4)", x.swap(4, 4), -1);
        for (int bad : OUT_OF_ANY_RANGE) {
            due("swap(0, " + bad + ")", x.swap(0, bad), -1);
            due("swap(" + bad + ", 0)", x.swap(bad, 0), -1);
            due("swap(" + bad + ", " + bad + ")", x.swap(bad, bad), -1);
        }
        dueOrder(x, 1, 3, 0, 2);
    }

    private static void promise6At() {
        OrderFinder x = new OrderFinder(5);
        dueOrder(x, 0, 1, 2, 3, 4);
        x.swap(0, 1);
        x.swap(1, 2);
        x.swap(2, 3);
        x.swap(3, 4);
        dueOrder(x, 1, 2, 3, 4, 0);
        for (int n = 1; n <= 5; n++) {
            OrderFinder y = new OrderFinder(n);
            due("at(n-1)", y.at(n - 1), n - 1);
            due("at(n)", y.at(n), -1);
            for (int bad : OUT_OF_ANY_RANGE) {
                due("at(" + bad + ")", y.at(bad), -1);
            }
        }
        x.load(0, 0x6996A5F0);
        x.least();
        x.greatest();
        x.best(4);
        x.leastWith(2, 0);
        x.size();
        x.width(3);
        dueOrder(x, 1, 2, 3, 4, 0);
    }

    private static void promise7Width() {
        OrderFinder x = new OrderFinder(3);
        x.load(0, 0x96);
        dueWidths(x, 1, 2, 2);
        x.load(1, 0x69);
        dueWidths(x, 2, 2, 2);
        x.load(2, 0x96);
        dueWidths(x, 2, 2, 2);
        x.load(0, 0x80);
        x.load(1, 0);
        x.load(2, 0xFF);
        dueWidths(x, 1, 1, 1);
        x.load(0, 0xCC);
        x.load(2, 0);
        dueWidths(x, 0, 1, 0);
        x.swap(1, 2);
        dueWidths(x, 0, 0, 1);
        x.swap(0, 2);
        dueWidths(x, 1, 0, 0);

        // Rest functions of different functions are one: x2 alone is a rest function of (x0 and x2) too.
        OrderFinder y = new OrderFinder(3);
        y.load(0, 0xA0);
        y.load(1, 0xF0);
        dueWidths(y, 1, 0, 1);
        // The function that skips place 0 still counts at place 1.
        y.load(2, 0xC0);
        dueWidths(y, 1, 1, 1);

        for (int n = 1; n <= 5; n++) {
            OrderFinder z = new OrderFinder(n);
            z.load(0, 0x6AC1F309);
            due("width(n)", z.width(n), -1);
            for (int bad : OUT_OF_ANY_RANGE) {
                due("width(" + bad + ")", z.width(bad), -1);
            }
        }
    }

    private static void promise8Size() {
        OrderFinder x = new OrderFinder(5);
        x.load(0, 0x96696996);
        due("size() of parity of five", x.size(), 9);
        x.load(1, ~0x96696996);
        due("size() of parity and its opposite", x.size(), 10);
        for (int v = 0; v < 5; v++) {
            OrderFinder y = new OrderFinder(5);
            for (int f = 0; f < 3; f++) {
                y.load(f, SINGLE[v]);
                due("size() of one variable", y.size(), 1);
            }
            y.load(1, ~SINGLE[v]);
            due("size() of a variable and its opposite", y.size(), 2);
        }
        // (x0 and x1) or (x2 and x3): one node for each variable while the pairs stand together.
        OrderFinder z = new OrderFinder(4);
        z.load(0, 0xF888);
        due("size() of pairs together", z.size(), 4);
        z.swap(1, 2);
        due("size() of pairs apart", z.size(), 6);
        z.swap(1, 2);
        due("size() of pairs together again", z.size(), 4);
        // Widths 1, 2, 2 (x2 and x3 alike; x2 and x3 both) and 2 (x3; its opposite).
        z.flip(0, 0);
        due("size() after a flip", z.size(), 7);
    }

    private static void promise9Least() {
        OrderFinder x = new OrderFinder(4);
        // (x0 and x2) or (x1 and x3).
        x.load(0, 0xECA0);
        due("size() of pairs apart", x.size(), 6);
        due("least() of pairs apart", x.least(), 4);
        x.swap(1, 2);
        due("least() does not follow the order", x.least(), 4);
        // With x0 last the node of x0 is there already; its opposite needs one of its own.
        due("least() with x0 as a second function", loadThenLeast(x, 1, 0xAAAA), 4);
        due("least() with its opposite instead", loadThenLeast(x, 1, 0x5555), 5);
        due("least() of constants", loadThenLeast(loaded(x, 0, 0), 1, -1), 0);
        x.flip(2, 15);
        due("least() of an and of four", x.least(), 4);
    }

    private static void promise10Best() {
        OrderFinder x = new OrderFinder(4);
        x.load(0, 0xECA0);
        dueBest(x, 0, 2, 1, 3);
        x.swap(0, 3);
        dueBest(x, 0, 2, 1, 3);
        // x3 chooses between x0 and (x1 and x2): x3 must be first.
        x.load(0, 0xC0AA);
        dueBest(x, 3, 0, 1, 2);
        x.load(0, 0x6996);
        dueBest(x, 0, 1, 2, 3);
        x.load(0, 0);
        dueBest(x, 0, 1, 2, 3);
        for (int n = 1; n <= 5; n++) {
            OrderFinder y = new OrderFinder(n);
            due("best(n)", y.best(n), -1);
            for (int bad : OUT_OF_ANY_RANGE) {
                due("best(" + bad + ")", y.best(bad), -1);
            }
        }
    }

    private static void promise11Greatest() {
        OrderFinder x = new OrderFinder(4);
        x.load(0, 0xF888);
        due("greatest() of pairs", x.greatest(), 6);
        x.swap(1, 2);
        due("greatest() does not follow the order", x.greatest(), 6);
        x.load(0, 0x6996);
        due("greatest() of parity", x.greatest(), 7);
        x.load(0, 0x8000);
        due("greatest() of an and", x.greatest(), 4);
        x.load(0, -1);
        due("greatest() of a constant", x.greatest(), 0);
    }

    private static void promise12LeastWith() {
        OrderFinder x = new OrderFinder(3);
        // x2 chooses between x0 and x1: the size is 3 with x2 first and 4 or 5 otherwise.
        x.load(0, 0xCA);
        due("leastWith(2, 0)", x.leastWith(2, 0), 3);
        due("leastWith(2, 1)", x.leastWith(2, 1), 4);
        due("leastWith(2, 2)", x.leastWith(2, 2), 5);
        due("leastWith(0, 0)", x.leastWith(0, 0), 4);
        due("leastWith(0, 1)", x.leastWith(0, 1), 3);
        due("leastWith(1, 2)", x.leastWith(1, 2), 3);
        x.swap(0, 2);
        due("leastWith does not follow the order", x.leastWith(2, 2), 5);
        due("least() after leastWith", x.least(), 3);
        due("best(0) after leastWith", x.best(0), 2);
        for (int n = 1; n <= 5; n++) {
            OrderFinder y = new OrderFinder(n);
            due("leastWith(n-1, n-1)", y.leastWith(n - 1, n - 1), 0);
            due("leastWith(n, 0)", y.leastWith(n, 0), -1);
            due("leastWith(0, n)", y.leastWith(0, n), -1);
            for (int bad : OUT_OF_ANY_RANGE) {
                due("leastWith(" + bad + ", 0)", y.leastWith(bad, 0), -1);
                due("leastWith(0, " + bad + ")", y.leastWith(0, bad), -1);
                due("leastWith(" + bad + ", " + bad + ")", y.leastWith(bad, bad), -1);
            }
        }
    }

    private static void refusedCallsChangeNothing() {
        for (int n = 1; n <= 5; n++) {
            OrderFinder x = new OrderFinder(n);
            x.load(0, 0x6AC1F309);
            x.load(1, 0x13579BDF);
            x.load(2, 0xFEDCBA98);
            x.swap(0, n - 1);
            String before = stateOf(x, n);
            int[] bad = {-1, Integer.MIN_VALUE, Integer.MAX_VALUE, 32, 1 << n};
            for (int b : bad) {
                x.flip(0, b);
                x.flip(2, b);
                x.value(0, b);
            }
            int[] badPlaces = {-1, Integer.MIN_VALUE, Integer.MAX_VALUE, 32, n};
            for (int b : badPlaces) {
                x.swap(0, b);
                x.swap(b, n - 1);
                x.swap(b, b);
                x.at(b);
                x.width(b);
                x.best(b);
                x.leastWith(b, 0);
                x.leastWith(0, b);
            }
            int[] badFunctions = {-1, Integer.MIN_VALUE, Integer.MAX_VALUE, 32, 3};
            for (int b : badFunctions) {
                x.load(b, 0x0F1E2D3C);
                x.flip(b, 0);
                x.value(b, 0);
            }
            String after = stateOf(x, n);
            due("n=" + n + ": state kept by refused calls", after.equals(before) ? 1 : 0, 1);
        }
    }

    private static void objectsAreApart() {
        OrderFinder x = new OrderFinder(3);
        OrderFinder y = new OrderFinder(3);
        x.load(0, 0x96);
        x.swap(0, 2);
        due("other object: value(0, 1)", y.value(0, 1), 0);
        due("other object: at(0)", y.at(0), 0);
        due("other object: size()", y.size(), 0);
        due("this object: size()", x.size(), 5);
    }

    private static OrderFinder loaded(OrderFinder x, int function, int bits) {
        x.load(function, bits);
        return x;
    }

    private static int loadThenLeast(OrderFinder x, int function, int bits) {
        x.load(function, bits);
        return x.least();
    }

    private static void dueOrder(OrderFinder x, int... order) {
        for (int p = 0; p < order.length; p++) {
            due("at(" + p + ")", x.at(p), order[p]);
        }
    }

    private static void dueWidths(OrderFinder x, int... widths) {
        for (int p = 0; p < widths.length; p++) {
            due("width(" + p + ")", x.width(p), widths[p]);
        }
    }

    private static void dueBest(OrderFinder x, int... order) {
        for (int p = 0; p < order.length; p++) {
            due("best(" + p + ")", x.best(p), order[p]);
        }
    }

    private static String stateOf(OrderFinder x, int n) {
        StringBuilder state = new StringBuilder();
        for (int f = 0; f < 3; f++) {
            for (int a = 0; a < 1 << n; a++) {
                state.append(x.value(f, a));
            }
            state.append(' ');
        }
        for (int p = 0; p < n; p++) {
            state.append(x.at(p)).append(x.width(p)).append(x.best(p)).append(' ');
        }
        return state.append(x.size()).append(' ').append(x.least()).append(' ').append(x.greatest()).toString();
    }
}
