/** Promises 1 to 3, 11 to 15, 19 and 21: a new object, THE LINE, SLOTS, VALUES and the desk. */
public final class FaceTest {
    private static final int MILLIARD = 1000000000;
    private static final Bench BENCH = new Bench("FaceTest");

    public static void main(String[] args) {
        constants();
        newObject();
        type();
        typeAtTheEnd();
        erase();
        set();
        make();
        put();
        get();
        value();
        fact();
        forget();
        BENCH.end();
    }

    private static void constants() {
        int[] all = {
            IndexedCompiler.NONE, IndexedCompiler.SIGN, IndexedCompiler.SAME, IndexedCompiler.FULL, IndexedCompiler.NAME,
            IndexedCompiler.KIND, IndexedCompiler.COUNT, IndexedCompiler.MANY, IndexedCompiler.UNFIT, IndexedCompiler.STEPS,
            IndexedCompiler.STACK, IndexedCompiler.OVER, IndexedCompiler.NEGATIVE, IndexedCompiler.MEMORY, IndexedCompiler.OUTSIDE
        };
        for (int k = 0; k < all.length; k++) {
            BENCH.due("constant " + k, all[k], -1 - k);
        }
    }

    private static void newObject() {
        IndexedCompiler c = BENCH.fresh();
        BENCH.due("place", c.place(), -1);
        for (int k = 0; k < 5; k++) {
            BENCH.due("count " + k, c.count(k), 0);
        }
        BENCH.due("count 5", c.count(5), -1);
        for (int k = 0; k < 6; k++) {
            BENCH.due("slot " + k, c.get(k, -1), 0);
            int slot = k;
            BENCH.dueThrow("a new slot is a number", Bench.STATE, () -> c.get(slot, 0));
        }
        for (int k = 0; k < 4; k++) {
            BENCH.due("value " + k, c.value(k, 0), 0);
        }
        for (int k = 0; k < 8; k++) {
            BENCH.due("told " + k, c.told(k), 0);
        }
        BENCH.due("printed", c.printed(0, false), -1);
        BENCH.due("printed row", c.printed(0, true), -1);
        BENCH.dueThrow("goal", Bench.STATE, () -> c.goal(0, 0));
        BENCH.dueThrow("code", Bench.STATE, () -> c.code(0, 0, 0));
        BENCH.dueThrow("run", Bench.STATE, () -> c.run(0, 0, 1));
        BENCH.due("forget", c.forget(), 0);
        BENCH.due("clear", c.clear(), 0);
        BENCH.due("erase", c.erase(), 0);
        BENCH.due("define of nothing", c.define(), IndexedCompiler.SIGN);
        BENCH.due("its place", c.place(), 0);
    }

    private static void type() {
        IndexedCompiler c = BENCH.fresh();
        BENCH.due("nothing typed", c.type(0, 0, 0, 0, 0), 0);
        BENCH.due("four", c.type('f' << 24 | 'u' << 16 | 'n' << 8 | ' ', 0, 0, 0, 0), 4);
        BENCH.due("a byte 0 is none, wherever it stands", c.type(0, 'f' << 16, '(' << 24 | ')', 0, ':'), 8);
        BENCH.due("the rest", c.type(0, ' ' << 16 | 'i' << 8 | 'n', 't' << 24, 0, '=' << 24 | '7'), 14);
        BENCH.due("the line is fun f(): int=7", c.define(), 0);
        BENCH.due("the line stays", c.type(0, 0, 0, 0, 0), 14);
        BENCH.due("bytes above 127", c.type(-1, 0x80000000, 0x00ff0080, 0, 0), 21);
        BENCH.due("they are no signs", c.define(), IndexedCompiler.SIGN);
        BENCH.due("the first one is where it cannot go on", c.place(), 14);
        BENCH.due("all twenty", c.type(-1, -1, -1, -1, -1), 41);
    }

    private static void typeAtTheEnd() {
        IndexedCompiler c = BENCH.fresh();
        int blanks = 0x20202020;
        for (int k = 1; k <= 23; k++) {
            BENCH.due("blanks", c.type(blanks, blanks, blanks, blanks, blanks), 20 * k);
        }
        BENCH.due("479", c.type(blanks, blanks, blanks, blanks, 0x202020), 479);
        BENCH.dueThrow("481", Bench.STATE, () -> c.type(0, 0, 0, 0x20000000, 0x20));
        BENCH.due("nothing was changed", c.type(0, 0, 0, 0, 0), 479);
        BENCH.due("480", c.type(0, 0, 0x2000, 0, 0), 480);
        BENCH.dueThrow("one more", Bench.STATE, () -> c.type(0, 0, 0, 0, 0x20));
        BENCH.dueThrow("one more, above 127", Bench.STATE, () -> c.type(0, 0x80000000, 0, 0, 0));
        BENCH.due("none more", c.type(0, 0, 0, 0, 0), 480);
        BENCH.due("blanks alone end too soon", c.define(), IndexedCompiler.SIGN);
        BENCH.due("at the length", c.place(), 480);
        BENCH.due("erase", c.erase(), 480);
        String longest = "fun f(): int = " + "1+".repeat(232) + "1";
        BENCH.due("a function of 480 signs", BENCH.define(longest), 0);
        BENCH.due("it is as long", c.erase(), 480);
        BENCH.due("it can be checked", c.check(), 1);
        BENCH.due("it can be run", c.run(0, 0, 20000), 1);
        BENCH.due("its sum", c.told(1), 233);
    }

    private static void erase() {
        IndexedCompiler c = BENCH.fresh();
        BENCH.type("fun f(): int = 1");
        BENCH.due("erase", c.erase(), 16);
        BENCH.due("erase again", c.erase(), 0);
        BENCH.due("define behind erase", c.define(), IndexedCompiler.SIGN);
        BENCH.due("its place", c.place(), 0);
        BENCH.due("typed anew", BENCH.type("fun g(): int = 2"), 16);
        BENCH.due("define", c.define(), 0);
        BENCH.due("functions stay", c.erase() + c.count(0), 17);
    }

    private static void set() {
        IndexedCompiler c = BENCH.fresh();
        for (int slot = 0; slot < 6; slot++) {
            c.set(slot, 100 + slot);
        }
        for (int slot = 0; slot < 6; slot++) {
            BENCH.due("slot", c.get(slot, -1), 100 + slot);
        }
        c.set(0, MILLIARD);
        BENCH.due("greatest", c.get(0, -1), MILLIARD);
        c.set(0, -MILLIARD);
        BENCH.due("least", c.get(0, -1), -MILLIARD);
        for (int v : new int[] {MILLIARD + 1, -MILLIARD - 1, Integer.MAX_VALUE, Integer.MIN_VALUE}) {
            BENCH.dueThrow("set of " + v, Bench.ARGUMENT, () -> c.set(0, v));
        }
        for (int slot : new int[] {-1, 6, Integer.MAX_VALUE, Integer.MIN_VALUE}) {
            BENCH.dueThrow("set at " + slot, Bench.ARGUMENT, () -> c.set(slot, 0));
        }
        BENCH.due("nothing was changed", c.get(0, -1), -MILLIARD);
        c.make(1, 3);
        c.set(1, 5);
        BENCH.due("a number again", c.get(1, -1), 5);
        BENCH.dueThrow("it has no numbers", Bench.STATE, () -> c.get(1, 0));
    }

    private static void make() {
        IndexedCompiler c = BENCH.fresh();
        c.make(5, 40);
        BENCH.due("length", c.get(5, -1), 40);
        c.put(5, 39, 7);
        BENCH.due("last", c.get(5, 39), 7);
        c.make(5, 40);
        BENCH.due("zeros again", c.get(5, 39), 0);
        c.make(5, 0);
        BENCH.due("length 0", c.get(5, -1), 0);
        BENCH.dueThrow("no number 0", Bench.STATE, () -> c.get(5, 0));
        for (int n : new int[] {-1, 41, Integer.MAX_VALUE, Integer.MIN_VALUE}) {
            BENCH.dueThrow("make of " + n, Bench.ARGUMENT, () -> c.make(5, n));
        }
        for (int slot : new int[] {-1, 6, Integer.MIN_VALUE}) {
            BENCH.dueThrow("make at " + slot, Bench.ARGUMENT, () -> c.make(slot, 1));
        }
        BENCH.due("still a row of 0", c.get(5, -1), 0);
        c.make(0, 2);
        c.make(1, 2);
        c.put(0, 1, 9);
        BENCH.due("each slot has its own row", c.get(1, 1), 0);
    }

    private static void put() {
        IndexedCompiler c = BENCH.fresh();
        c.make(2, 3);
        c.put(2, 0, -MILLIARD);
        c.put(2, 2, MILLIARD);
        BENCH.due("number 0", c.get(2, 0), -MILLIARD);
        BENCH.due("number 1", c.get(2, 1), 0);
        BENCH.due("number 2", c.get(2, 2), MILLIARD);
        BENCH.dueThrow("number 3", Bench.STATE, () -> c.put(2, 3, 0));
        BENCH.dueThrow("number -1", Bench.STATE, () -> c.put(2, -1, 0));
        BENCH.dueThrow("a number's number", Bench.STATE, () -> c.put(0, 0, 0));
        BENCH.dueThrow("no such slot", Bench.ARGUMENT, () -> c.put(6, 0, 0));
        BENCH.dueThrow("no such slot below", Bench.ARGUMENT, () -> c.put(-1, 0, 0));
        BENCH.dueThrow("too great", Bench.ARGUMENT, () -> c.put(2, 0, MILLIARD + 1));
        BENCH.dueThrow("too small", Bench.ARGUMENT, () -> c.put(2, 0, -MILLIARD - 1));
        BENCH.dueThrow("the argument goes first", Bench.ARGUMENT, () -> c.put(0, 9, MILLIARD + 1));
        BENCH.due("nothing was changed", c.get(2, 0), -MILLIARD);
    }

    private static void get() {
        IndexedCompiler c = BENCH.fresh();
        c.set(3, -1);
        BENCH.due("a number", c.get(3, IndexedCompiler.NONE), -1);
        BENCH.dueThrow("no row", Bench.STATE, () -> c.get(3, 0));
        BENCH.dueThrow("no row, below", Bench.STATE, () -> c.get(3, -2));
        c.make(3, 2);
        BENCH.due("a length", c.get(3, IndexedCompiler.NONE), 2);
        BENCH.dueThrow("behind", Bench.STATE, () -> c.get(3, 2));
        BENCH.dueThrow("before", Bench.STATE, () -> c.get(3, -2));
        BENCH.dueThrow("far", Bench.STATE, () -> c.get(3, Integer.MIN_VALUE));
        BENCH.dueThrow("no such slot", Bench.ARGUMENT, () -> c.get(6, -1));
        BENCH.dueThrow("no such slot below", Bench.ARGUMENT, () -> c.get(-1, 5));
    }

    private static void value() {
        IndexedCompiler c = BENCH.fresh();
        BENCH.due("was", c.value(3, MILLIARD), 0);
        BENCH.due("was then", c.value(3, -MILLIARD), MILLIARD);
        BENCH.dueThrow("too great", Bench.ARGUMENT, () -> c.value(3, MILLIARD + 1));
        BENCH.dueThrow("too small", Bench.ARGUMENT, () -> c.value(3, Integer.MIN_VALUE));
        BENCH.dueThrow("no such value", Bench.ARGUMENT, () -> c.value(4, 0));
        BENCH.dueThrow("no such value below", Bench.ARGUMENT, () -> c.value(-1, 0));
        BENCH.due("nothing was changed", c.value(3, 5), -MILLIARD);
        BENCH.due("the others", c.value(0, 1) + c.value(1, 1) + c.value(2, 1), 0);
    }

    private static void fact() {
        IndexedCompiler c = BENCH.fresh();
        BENCH.due("one", c.fact(1000, -1000, 1000, 1000000), 1);
        BENCH.due("two", c.fact(0, 0, 0, -1000000), 2);
        int[][] wrong = {
            {1001, 0, 0, 0}, {-1001, 0, 0, 0}, {0, 1001, 0, 0}, {0, -1001, 0, 0}, {0, 0, 1001, 0}, {0, 0, -1001, 0},
            {0, 0, 0, 1000001}, {0, 0, 0, -1000001}, {Integer.MIN_VALUE, 0, 0, 0}, {0, 0, 0, Integer.MAX_VALUE}
        };
        for (int[] w : wrong) {
            BENCH.dueThrow("fact", Bench.ARGUMENT, () -> c.fact(w[0], w[1], w[2], w[3]));
            BENCH.dueThrow("ask", Bench.ARGUMENT, () -> c.ask(w[0], w[1], w[2], w[3]));
        }
        for (int k = 3; k <= 40; k++) {
            BENCH.due("fact", c.fact(k, 0, 0, 0), k);
        }
        BENCH.dueThrow("41", Bench.STATE, () -> c.fact(0, 0, 0, 0));
        BENCH.dueThrow("the argument goes first", Bench.ARGUMENT, () -> c.fact(1001, 0, 0, 0));
        BENCH.due("forty", c.forget(), 40);
    }

    private static void forget() {
        IndexedCompiler c = BENCH.fresh();
        c.fact(0, 0, 0, -1);
        BENCH.due("all follows from what is false", c.ask(1, 2, 3, -4), true);
        BENCH.due("one", c.forget(), 1);
        BENCH.due("none", c.forget(), 0);
        BENCH.due("nothing follows any more", c.ask(1, 2, 3, -4), false);
        BENCH.due("anew", c.fact(1, 0, 0, 0), 1);
        BENCH.due("the old one is gone", c.ask(0, 0, 0, -1), false);
        BENCH.due("the new one is there", c.ask(1, 0, 0, 0), true);
    }
}
