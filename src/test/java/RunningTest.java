/** Promises 16 to 18: RUNS, what they tell, and what they print and answer. */
public final class RunningTest {
    private static final int MILLIARD = 1000000000;
    private static final Bench BENCH = new Bench("RunningTest");

    public static void main(String[] args) {
        whatIsAnswered();
        arithmetic();
        relations();
        steps();
        calls();
        stack();
        over();
        rowsAndCells();
        outside();
        checksThatAreLeft();
        slotsBehindARun();
        unfitKinds();
        unfitProps();
        unfitChangesNothing();
        prints();
        rowsThatAreAnswered();
        whatStays();
        sorting();
        wrongArguments();
        BENCH.end();
    }

    /** Runs function 0, both ways, with numbers in its SLOTS. */
    private static void dueRun(int end, int answer, int... numbers) {
        for (int how = 0; how <= 1; how++) {
            for (int k = 0; k < numbers.length; k++) {
                BENCH.c.set(k, numbers[k]);
            }
            BENCH.due("run", BENCH.c.run(0, how, 20000), end);
            BENCH.due("told end", BENCH.c.told(0), end);
            BENCH.due("told answer", BENCH.c.told(1), answer);
        }
    }

    private static void whatIsAnswered() {
        BENCH.dueCheck(1, "fun f(): int = 7");
        dueRun(1, 7);
        BENCH.dueTold(1, 7, 2, 0, 0, 0, 1, 0);
        BENCH.dueCheck(1, "fun f(a: int, b: int, c: int, d: int, e: int): int = a - b + c * d - e");
        dueRun(1, 1 - 2 + 3 * 4 - 5, 1, 2, 3, 4, 5, 99);
    }

    private static void arithmetic() {
        BENCH.dueCheck(1, "fun f(x: int): int = x / 2");
        dueRun(1, 3, 7);
        dueRun(1, -4, -7);
        dueRun(1, -1, -1);
        BENCH.dueCheck(1, "fun f(x: int): int = x / 999 * 999 + 5 - 2 * 3");
        dueRun(1, -1000, -1);
        dueRun(1, 998, 999);
    }

    private static void relations() {
        String[] all = {"<", "<=", "=", ">=", ">"};
        int[][] want = {{1, 0, 0}, {1, 1, 0}, {0, 1, 0}, {0, 1, 1}, {0, 0, 1}};
        for (int k = 0; k < 5; k++) {
            BENCH.dueCheck(1, "fun f(x: int, y: int): int = if x " + all[k] + " y then 1 else 0 end");
            for (int y = 0; y < 3; y++) {
                dueRun(1, want[k][y], 1, 2 - y);
            }
        }
    }

    private static void steps() {
        BENCH.dueCheck(1, "fun f(): int = 1; 2; 3");
        BENCH.due("as many as it takes", BENCH.c.run(0, 0, 6), 1);
        BENCH.dueTold(1, 3, 6, 0, 0, 0, 1, 0);
        BENCH.due("one too few", BENCH.c.run(0, 0, 5), IndexedCompiler.STEPS);
        BENCH.dueTold(IndexedCompiler.STEPS, 0, 5, 0, 0, 0, 1, 0);
        BENCH.due("one", BENCH.c.run(0, 0, 1), IndexedCompiler.STEPS);
        BENCH.dueTold(IndexedCompiler.STEPS, 0, 1, 0, 0, 0, 1, 0);
        BENCH.dueCheck(1, "fun f(x: int): int = if x > 0 then g(g(x - 1)) else 0 end", "fun g(x: int): int = if x > 0 then g(x - 1) else 50 end");
        BENCH.c.set(0, 59);
        BENCH.due("run", BENCH.c.run(0, 0, 20000), 1);
        int made = BENCH.c.told(2);
        BENCH.due("so many", BENCH.c.run(0, 1, made), 1);
        BENCH.due("one less", BENCH.c.run(0, 1, made - 1), IndexedCompiler.STEPS);
    }

    private static void calls() {
        BENCH.dueCheck(1, "fun f(x: int): int = if x > 1 then 1 * f(x - 1) else 7 end");
        dueRun(1, 7, 60);
        BENCH.due("most calls", BENCH.c.told(6), 60);
        dueRun(IndexedCompiler.STACK, 0, 61);
        BENCH.due("most calls", BENCH.c.told(6), 60);
        dueRun(1, 7, 1);
        BENCH.due("most calls", BENCH.c.told(6), 1);
        BENCH.dueCheck(1, "fun f(): int = f()");
        dueRun(IndexedCompiler.STACK, 0);
        BENCH.dueTold(IndexedCompiler.STACK, 0, 60, 0, 0, 0, 60, 0);
        BENCH.due("steps go first", BENCH.c.run(0, 0, 59), IndexedCompiler.STEPS);
        BENCH.due("the sixtieth is the one", BENCH.c.run(0, 0, 60), IndexedCompiler.STACK);
        BENCH.dueCheck(1, "fun f(x: int): int = g(x) - h(x, 1) + g(2)", "fun g(y: int): int = let z = y * y in z", "fun h(a: int, b: int): int = let c = g(a) in c - b");
        dueRun(1, 9 - 8 + 4, 3);
        BENCH.due("most calls", BENCH.c.told(6), 3);
    }

    private static void stack() {
        BENCH.dueCheck(1, "fun f(x: int): int = 1 + (1 + (1 + (1 + f(x))))");
        dueRun(IndexedCompiler.STACK, 0, 5);
        BENCH.dueTold(IndexedCompiler.STACK, 0, 299, 0, 0, 0, 50, 0);
        BENCH.due("steps go first", BENCH.c.run(0, 0, 298), IndexedCompiler.STEPS);
        BENCH.dueCheck(1, "fun f(): int = 1 + (1 + (1 + (1 + f())))");
        dueRun(IndexedCompiler.STACK, 0);
        BENCH.dueTold(IndexedCompiler.STACK, 0, 251, 0, 0, 0, 51, 0);
        // What a ; b takes away is gone.
        BENCH.dueCheck(1, "fun f(): int = " + "1;".repeat(230) + "2");
        dueRun(1, 2);
        // 3 numbers of each of 59 calls, and what the last one needs, are not more than 200.
        BENCH.dueCheck(1, "fun f(x: int): int = 1 + (1 + (1 + (if x > 1 then f(x - 1) else 0 end)))");
        dueRun(1, 180, 60);
        String pushes = "fun f(x: int): int = if x > 0 then 1 + (2 + (3 + (4 + f(x - 1)))) else ";
        BENCH.dueCheck(1, pushes + "1 + (1 + (1 + 1)) end");
        dueRun(1, 49 * 10 + 4, 49);
        BENCH.dueCheck(1, pushes + "1 + (1 + (1 + (1 + 1))) end");
        dueRun(1, 48 * 10 + 5, 48);
        dueRun(IndexedCompiler.STACK, 0, 49);
    }

    private static void over() {
        BENCH.dueCheck(1, "fun f(x: int, y: int): int = x + y");
        dueRun(1, MILLIARD, MILLIARD - 1, 1);
        dueRun(IndexedCompiler.OVER, 0, MILLIARD, 1);
        dueRun(IndexedCompiler.OVER, 0, MILLIARD, MILLIARD);
        dueRun(1, -MILLIARD, -MILLIARD, 0);
        dueRun(IndexedCompiler.OVER, 0, -MILLIARD, -1);
        BENCH.dueTold(IndexedCompiler.OVER, 0, 3, 0, 0, 0, 1, 0);
        BENCH.dueCheck(1, "fun f(x: int, y: int): int = x - y");
        dueRun(1, -MILLIARD, -MILLIARD + 1, 1);
        dueRun(IndexedCompiler.OVER, 0, -MILLIARD, 1);
        dueRun(IndexedCompiler.OVER, 0, MILLIARD, -MILLIARD);
        BENCH.dueCheck(1, "fun f(x: int, y: int): int = x * y");
        dueRun(1, MILLIARD, 31250, 32000);
        dueRun(IndexedCompiler.OVER, 0, 31250, 32001);
        dueRun(IndexedCompiler.OVER, 0, -31250, 32001);
        dueRun(IndexedCompiler.OVER, 0, MILLIARD, MILLIARD);
        dueRun(1, 0, MILLIARD, 0);
    }

    private static void rowsAndCells() {
        BENCH.dueCheck(1, "fun f(x: int): int = let a = new x in len a");
        dueRun(1, 0, 0);
        BENCH.due("cells", BENCH.c.told(7), 1);
        dueRun(1, 599, 599);
        BENCH.due("cells", BENCH.c.told(7), 600);
        dueRun(IndexedCompiler.MEMORY, 0, 600);
        BENCH.dueTold(IndexedCompiler.MEMORY, 0, 2, 0, 0, 0, 1, 0);
        dueRun(IndexedCompiler.MEMORY, 0, MILLIARD);
        dueRun(IndexedCompiler.NEGATIVE, 0, -1);
        BENCH.dueTold(IndexedCompiler.NEGATIVE, 0, 2, 0, 0, 0, 1, 0);
        BENCH.dueCheck(1, "fun f{n}(x: int, a: row(n)): int = let b = new x in len a + len b");
        BENCH.c.make(1, 40);
        BENCH.c.value(0, 40);
        dueRun(1, 598, 558);
        BENCH.due("cells of the parameter, too", BENCH.c.told(7), 600);
        dueRun(IndexedCompiler.MEMORY, 0, 559);
        BENCH.due("none was taken", BENCH.c.told(7), 41);
        BENCH.dueCheck(1, "fun f(x: int): int = let a = new 99 in if x > 1 then f(x - 1) else let b = new 1 in b[0] + len b end");
        dueRun(1, 1, 5);
        BENCH.due("none comes back", BENCH.c.told(7), 502);
        BENCH.dueCheck(1, "fun f(x: int): int = let a = new 3 in a[2] := a[2] + x; a[2]");
        dueRun(1, 5, 5);
        dueRun(1, 6, 6);
        BENCH.dueCheck(1, "fun f(x: int): int = let a = new 99 in if x > 1 then f(x - 1) else let b = new 1 in b[0] + len b end");
        dueRun(IndexedCompiler.MEMORY, 0, 6);
        BENCH.due("six rows of 99", BENCH.c.told(7), 600);
    }

    private static void outside() {
        BENCH.dueCheck(1, "fun f{n}(i: int, a: row(n)): int = a[i]");
        BENCH.c.make(1, 3);
        BENCH.c.put(1, 0, 10);
        BENCH.c.put(1, 2, 12);
        BENCH.c.value(0, 3);
        dueRun(1, 10, 0);
        dueRun(1, 12, 2);
        BENCH.dueTold(1, 12, 4, 1, 1, 0, 1, 4);
        dueRun(IndexedCompiler.OUTSIDE, 0, 3);
        BENCH.dueTold(IndexedCompiler.OUTSIDE, 0, 3, 1, 0, 0, 1, 4);
        dueRun(IndexedCompiler.OUTSIDE, 0, -1);
        dueRun(IndexedCompiler.OUTSIDE, 0, MILLIARD);
        dueRun(IndexedCompiler.OUTSIDE, 0, -MILLIARD);
        BENCH.dueCheck(1, "fun f{n}(i: int, a: row(n)): int = a[0] := 5; (a[i] := 6) + 1");
        BENCH.c.make(1, 2);
        BENCH.c.value(0, 2);
        dueRun(1, 7, 1);
        BENCH.due("put", BENCH.c.get(1, 1), 6);
        dueRun(IndexedCompiler.OUTSIDE, 0, 2);
        BENCH.dueTold(IndexedCompiler.OUTSIDE, 0, 9, 2, 1, 0, 1, 3);
        BENCH.c.make(1, 0);
        BENCH.c.value(0, 0);
        dueRun(IndexedCompiler.OUTSIDE, 0, 0);
        BENCH.dueTold(IndexedCompiler.OUTSIDE, 0, 4, 1, 0, 0, 1, 1);
    }

    private static void checksThatAreLeft() {
        BENCH.dueCheck(1, "fun f(a: row(3), i: int): int = a[0] := a[1]; a[i]; a[2]");
        BENCH.c.make(0, 3);
        BENCH.c.put(0, 1, 4);
        BENCH.c.set(1, 1);
        BENCH.due("with all checks", BENCH.c.run(0, 0, 100), 1);
        BENCH.dueTold(1, 0, 15, 4, 4, 0, 1, 4);
        BENCH.due("with those that are left", BENCH.c.run(0, 1, 100), 1);
        BENCH.dueTold(1, 0, 15, 1, 4, 0, 1, 4);
        BENCH.due("what was put", BENCH.c.get(0, 0), 4);
        BENCH.c.set(1, 3);
        BENCH.due("the one that is left fails", BENCH.c.run(0, 1, 100), IndexedCompiler.OUTSIDE);
        BENCH.dueTold(IndexedCompiler.OUTSIDE, 0, 10, 1, 2, 0, 1, 4);
    }

    private static void slotsBehindARun() {
        BENCH.dueCheck(1, "fun f(a: row(2), x: int, b: row(1)): int = b[0] := 8; a[1] := x; a[x]");
        BENCH.c.make(0, 2);
        BENCH.c.set(1, 7);
        BENCH.c.make(2, 1);
        BENCH.c.make(3, 2);
        BENCH.c.put(3, 1, 55);
        BENCH.due("run", BENCH.c.run(0, 0, 100), IndexedCompiler.OUTSIDE);
        BENCH.due("rows are as they became", BENCH.c.get(0, 1) * 10 + BENCH.c.get(2, 0), 78);
        BENCH.due("numbers stay", BENCH.c.get(1, -1), 7);
        BENCH.due("others stay", BENCH.c.get(3, 1), 55);
        BENCH.c.put(2, 0, 1);
        BENCH.due("steps", BENCH.c.run(0, 0, 4), IndexedCompiler.STEPS);
        BENCH.due("as it became so far", BENCH.c.get(2, 0), 8);
        BENCH.due("lengths", BENCH.c.get(0, -1) * 10 + BENCH.c.get(2, -1), 21);
    }

    private static void unfitKinds() {
        BENCH.dueCheck(1, "fun f(a: row(2), x: int): int = x");
        BENCH.due("a number", BENCH.c.run(0, 0, 9), IndexedCompiler.UNFIT);
        BENCH.c.make(0, 2);
        BENCH.due("fit", BENCH.c.run(0, 0, 9), 1);
        BENCH.c.make(1, 0);
        BENCH.due("a row", BENCH.c.run(0, 0, 9), IndexedCompiler.UNFIT);
        BENCH.c.set(1, 0);
        BENCH.c.make(2, 7);
        BENCH.due("a slot that is not used", BENCH.c.run(0, 0, 9), 1);
        BENCH.due("takes no cells", BENCH.c.told(7), 3);
        BENCH.c.make(0, 1);
        BENCH.due("too short", BENCH.c.run(0, 0, 9), IndexedCompiler.UNFIT);
        BENCH.c.make(0, 3);
        BENCH.due("too long", BENCH.c.run(0, 1, 9), IndexedCompiler.UNFIT);
    }

    private static void unfitProps() {
        BENCH.dueCheck(1, "fun f{n, m | n < 2*m - 3 & m = 5}(x: int(n + m), y: int{i | i > x & i <= 2*x & m < i}, a: row(y - n)): int = len a");
        int[] values = {6, 5};
        BENCH.c.value(0, 6);
        BENCH.c.value(1, 5);
        BENCH.c.make(2, 6);
        dueRun(1, 6, 11, 12);
        dueRunUnfit(10, 12);
        dueRunUnfit(12, 13);
        dueRunUnfit(11, 11);
        dueRunUnfit(11, 13);
        BENCH.c.make(2, 16);
        dueRun(1, 16, 11, 22);
        dueRunUnfit(11, 23);
        BENCH.c.make(2, 17);
        dueRunUnfit(11, 23);
        BENCH.c.make(2, 16);
        BENCH.due("value", BENCH.c.value(0, 7), values[0]);
        dueRunUnfit(12, 23);
        BENCH.c.value(0, 6);
        BENCH.c.value(1, 4);
        dueRunUnfit(10, 22);
        BENCH.c.value(1, 5);
        dueRun(1, 16, 11, 22);
        String[] relations = {"<", "<=", "=", ">=", ">"};
        int[][] fit = {{1, 0, 0}, {1, 1, 0}, {0, 1, 0}, {0, 1, 1}, {0, 0, 1}};
        for (int k = 0; k < 5; k++) {
            BENCH.dueCheck(1, "fun f{n, m | n " + relations[k] + " m}(): int = 1");
            BENCH.c.value(0, MILLIARD);
            for (int less = 0; less < 3; less++) {
                BENCH.c.value(0, MILLIARD - 1);
                BENCH.c.value(1, MILLIARD - less);
                BENCH.due("props " + k, BENCH.c.run(0, 0, 9), fit[k][less] == 1 ? 1 : IndexedCompiler.UNFIT);
            }
        }
        // The numbers of an INDEX are not cut.
        BENCH.dueCheck(1, "fun f{n}(x: int{i | 999*n + 999*i > 999*n + 998*i}): int = x");
        BENCH.c.value(0, MILLIARD);
        dueRun(1, MILLIARD, MILLIARD);
        // The i of a TYPE goes before all that bears its NAME.
        BENCH.dueCheck(1, "fun f{n}(x: int, y: int{n | n = 3}, z: int{x | x = 4}): int = y");
        BENCH.c.value(0, 9);
        dueRun(1, 3, 1, 3, 4);
        dueRunUnfit(4, 3, 3);
    }

    private static void dueRunUnfit(int... numbers) {
        for (int how = 0; how <= 1; how++) {
            for (int k = 0; k < numbers.length; k++) {
                BENCH.c.set(k, numbers[k]);
            }
            BENCH.due("run", BENCH.c.run(0, how, 20000), IndexedCompiler.UNFIT);
        }
    }

    private static void unfitChangesNothing() {
        BENCH.dueCheck(1, "fun f(x: int{i | i > 0}, a: row(1)): row(1) = out 5; a[0] := x; a");
        BENCH.c.make(1, 1);
        BENCH.c.set(0, 3);
        BENCH.due("run", BENCH.c.run(0, 0, 99), 1);
        BENCH.c.set(0, 0);
        BENCH.c.put(1, 0, 77);
        BENCH.due("unfit", BENCH.c.run(0, 0, 99), IndexedCompiler.UNFIT);
        BENCH.dueTold(1, 1, 10, 1, 1, 1, 1, 2);
        BENCH.due("printed", BENCH.c.printed(0, false), 5);
        BENCH.due("answered", BENCH.c.printed(0, true), 3);
        BENCH.due("the slot", BENCH.c.get(1, 0), 77);
    }

    private static void prints() {
        BENCH.dueCheck(1, "fun f(x: int): int = if x > 0 then out x; f(x - 1) else out (0 - 1) end");
        BENCH.c.set(0, 3);
        BENCH.due("run", BENCH.c.run(0, 0, 9999), 1);
        int[] want = {3, 2, 1, -1};
        for (int k = 0; k < 4; k++) {
            BENCH.due("printed " + k, BENCH.c.printed(k, false), want[k]);
        }
        BENCH.due("how many", BENCH.c.told(5), 4);
        for (int k : new int[] {4, 99, 100, -1, Integer.MAX_VALUE, Integer.MIN_VALUE}) {
            BENCH.due("none such", BENCH.c.printed(k, false), IndexedCompiler.NONE);
            BENCH.due("no row", BENCH.c.printed(k, true), IndexedCompiler.NONE);
        }
        BENCH.due("out is as what it prints", BENCH.c.told(1), -1);
        BENCH.dueCheck(1, "fun f(x: int): int = if x > 0 then out (x * 2); out (x * 2 + 1); f(x - 1) else 0 end");
        BENCH.c.set(0, 55);
        BENCH.due("run", BENCH.c.run(0, 0, 9999), 1);
        BENCH.due("all are counted", BENCH.c.told(5), 110);
        BENCH.due("the hundredth", BENCH.c.printed(99, false), 13);
        BENCH.due("no more are kept", BENCH.c.printed(100, false), IndexedCompiler.NONE);
        BENCH.due("a run that ends early", BENCH.c.run(0, 0, 8), IndexedCompiler.STEPS);
        BENCH.due("printed", BENCH.c.told(5), 1);
        BENCH.due("printed 0", BENCH.c.printed(0, false), 110);
        BENCH.due("the others are gone", BENCH.c.printed(1, false), IndexedCompiler.NONE);
    }

    private static void rowsThatAreAnswered() {
        BENCH.dueCheck(1, "fun f(a: row(3)): row(3) = let b = new 3 in b[1] := 5; a[2] := 6; if a[0] = 0 then a else b end");
        BENCH.c.make(0, 3);
        BENCH.c.put(0, 1, 4);
        BENCH.due("run", BENCH.c.run(0, 0, 99), 1);
        BENCH.due("a row's length", BENCH.c.told(1), 3);
        int[] want = {0, 4, 6};
        for (int k = 0; k < 3; k++) {
            BENCH.due("row " + k, BENCH.c.printed(k, true), want[k]);
        }
        BENCH.due("behind", BENCH.c.printed(3, true), IndexedCompiler.NONE);
        BENCH.due("before", BENCH.c.printed(-1, true), IndexedCompiler.NONE);
        BENCH.c.put(0, 1, 44);
        BENCH.due("as it was at its end", BENCH.c.printed(1, true), 4);
        BENCH.c.put(0, 0, 1);
        BENCH.due("run", BENCH.c.run(0, 1, 99), 1);
        BENCH.due("the other row", BENCH.c.printed(1, true), 5);
        BENCH.due("fault", BENCH.c.run(0, 1, 3), IndexedCompiler.STEPS);
        BENCH.due("no row behind a fault", BENCH.c.printed(0, true), IndexedCompiler.NONE);
        BENCH.due("no answer behind a fault", BENCH.c.told(1), 0);
        BENCH.dueCheck(1, "fun f(): row(0) = new 0");
        BENCH.due("run", BENCH.c.run(0, 0, 9), 1);
        BENCH.due("length", BENCH.c.told(1), 0);
        BENCH.due("none", BENCH.c.printed(0, true), IndexedCompiler.NONE);
        BENCH.dueCheck(1, "fun f(x: int): row(1) = let a = new 1 in let b = a in a[0] := x; g(b)", "fun g(c: row(1)): row(1) = c[0] := c[0] * 2; c");
        dueRun(1, 1, 21);
        BENCH.due("one row by many names", BENCH.c.printed(0, true), 42);
    }

    /** What the last RUN told stays till the next one, whatever becomes of the functions. */
    private static void whatStays() {
        BENCH.dueCheck(1, "fun f(): int = out 9");
        IndexedCompiler c = BENCH.c;
        c.run(0, 0, 9);
        c.clear();
        BENCH.due("told", c.told(1), 9);
        BENCH.due("printed", c.printed(0, false), 9);
        BENCH.dueDefined("fun g(): int = 4");
        BENCH.dueThrow("not checked", Bench.STATE, () -> c.run(0, 0, 9));
        BENCH.due("told still", c.told(2), 3);
        c.check();
        BENCH.due("run", c.run(0, 0, 9), 1);
        BENCH.dueTold(1, 4, 2, 0, 0, 0, 1, 0);
        BENCH.due("printed no more", c.printed(0, false), IndexedCompiler.NONE);
    }

    private static void sorting() {
        BENCH.dueCheck(1,
            "fun ins{n}(a: row(n), j: int{k | 0 <= k & k < n}): int = if j > 0 then if a[j] < a[j - 1] then let t = a[j] in a[j] := a[j - 1]; a[j - 1] := t; ins{n}(a, j - 1) else 0 end else 0 end",
            "fun sort{n}(a: row(n), i: int{k | 0 <= k & k <= n}): int = if i < len a then ins{n}(a, i); sort{n}(a, i + 1) else i end");
        int[] numbers = {5, -3, 9, 0, 5, 2, -3, 8};
        int[] sorted = {-3, -3, 0, 2, 5, 5, 8, 9};
        int[] checks = new int[2];
        for (int how = 0; how <= 1; how++) {
            BENCH.c.make(0, 8);
            for (int k = 0; k < 8; k++) {
                BENCH.c.put(0, k, numbers[k]);
            }
            BENCH.c.set(1, 0);
            BENCH.c.value(0, 8);
            BENCH.due("run", BENCH.c.run(1, how, 20000), 1);
            for (int k = 0; k < 8; k++) {
                BENCH.due("sorted " + k, BENCH.c.get(0, k), sorted[k]);
            }
            checks[how] = BENCH.c.told(3);
            BENCH.due("accesses", BENCH.c.told(4) > 0, true);
        }
        BENCH.due("all are checked", checks[0], BENCH.c.told(4));
        BENCH.due("none is left", checks[1], 0);
    }

    private static void wrongArguments() {
        BENCH.dueCheck(1, "fun f(): int = 1");
        IndexedCompiler c = BENCH.c;
        for (int how : new int[] {-1, 2, Integer.MAX_VALUE}) {
            BENCH.dueThrow("how " + how, Bench.ARGUMENT, () -> c.run(0, how, 1));
        }
        for (int steps : new int[] {0, -1, 20001, Integer.MAX_VALUE, Integer.MIN_VALUE}) {
            BENCH.dueThrow("steps " + steps, Bench.ARGUMENT, () -> c.run(0, 0, steps));
            BENCH.dueThrow("steps go first", Bench.ARGUMENT, () -> c.run(5, 0, steps));
        }
        for (int function : new int[] {-1, 1, Integer.MAX_VALUE, Integer.MIN_VALUE}) {
            BENCH.dueThrow("function " + function, Bench.STATE, () -> c.run(function, 0, 1));
        }
        for (int what : new int[] {-1, 8, Integer.MAX_VALUE, Integer.MIN_VALUE}) {
            BENCH.dueThrow("told " + what, Bench.ARGUMENT, () -> c.told(what));
        }
        for (int k = 0; k < 8; k++) {
            BENCH.due("nothing was told", c.told(k), 0);
        }
        BENCH.due("20000 steps", c.run(0, 0, 20000), 1);
    }
}
