/** Boundaries of RUNS: promises 16 to 18, and what 'Terms' says of THE MACHINE. */
public final class MachineBoundaryTest {
    private static final int MILLIARD = 1000000000;
    private static final int NONE = IndexedCompiler.NONE;
    private static final int UNFIT = IndexedCompiler.UNFIT;
    private static final int STEPS = IndexedCompiler.STEPS;
    private static final int STACK = IndexedCompiler.STACK;
    private static final int OVER = IndexedCompiler.OVER;
    private static final int NEGATIVE = IndexedCompiler.NEGATIVE;
    private static final int MEMORY = IndexedCompiler.MEMORY;
    private static final int OUTSIDE = IndexedCompiler.OUTSIDE;
    private static final Bench BENCH = new Bench("MachineBoundaryTest");

    public static void main(String[] args) {
        runArguments();
        runWithoutCode();
        slotsOfTheOtherKind();
        slotsInTheirOrder();
        valuesInTheirOrder();
        parametersInIndexes();
        propsThatDoNotHold();
        typesThatDoNotHold();
        exactTypesThatDoNotHold();
        rowsThatDoNotFit();
        greatNumbersOfIndexes();
        unfitChangesNothing();
        stepsGranted();
        twentyThousandSteps();
        twoHundredNumbers();
        localsAreNotOnTheStack();
        sixtyCalls();
        overOfSums();
        overOfProducts();
        overOfNothingElse();
        negativeRows();
        sixHundredCells();
        cellsOfParameters();
        noneComesBack();
        rowsAreAll0();
        outsideOfGet();
        outsideOfPut();
        freeOnesDoNotLook();
        whatWasPutIsLeft();
        roundedDown();
        relationsAtTheirBoundary();
        stepsGoFirst();
        slotsBehindARun();
        toldWhat();
        toldOfNone();
        toldBehindAFault();
        checksAndAccesses();
        mostCalls();
        aHundredAreKept();
        printedOfTheLastRun();
        rowsThatAreAnswered();
        BENCH.end();
    }

    private static void slots(int... numbers) {
        for (int k = 0; k < numbers.length; k++) {
            BENCH.c.set(k, numbers[k]);
        }
    }

    /** A RUN of function 0, both ways. */
    private static void dueRun(int end, int answer, int... numbers) {
        for (int how = 0; how <= 1; how++) {
            slots(numbers);
            BENCH.due("run, " + how, BENCH.c.run(0, how, 20000), end);
            BENCH.due("how it ended", BENCH.c.told(0), end);
            BENCH.due("what it answered", BENCH.c.told(1), answer);
        }
    }

    private static void dueFit(boolean fit, int... numbers) {
        for (int how = 0; how <= 1; how++) {
            slots(numbers);
            BENCH.due("run, " + how, BENCH.c.run(0, how, 20000), fit ? 1 : UNFIT);
        }
    }

    private static void runArguments() {
        BENCH.sentence("run: so many steps granted (1 .. 20000). IllegalArgument: how, steps");
        BENCH.dueCheck(1, "fun f(): int = 1");
        IndexedCompiler c = BENCH.c;
        for (int how : new int[] {-1, 2, Integer.MIN_VALUE, Integer.MAX_VALUE}) {
            BENCH.dueThrow("how " + how, Bench.ARGUMENT, () -> c.run(0, how, 1));
            BENCH.dueThrow("how goes before the function", Bench.ARGUMENT, () -> c.run(1, how, 1));
        }
        for (int steps : new int[] {0, -1, 20001, Integer.MIN_VALUE, Integer.MAX_VALUE}) {
            BENCH.dueThrow("steps " + steps, Bench.ARGUMENT, () -> c.run(0, 0, steps));
            BENCH.dueThrow("steps go before the function", Bench.ARGUMENT, () -> c.run(-1, 1, steps));
        }
        BENCH.due("what throws changes nothing", c.told(0), 0);
        BENCH.due("1 step", c.run(0, 0, 1), STEPS);
        BENCH.due("2 steps", c.run(0, 1, 2), 1);
        BENCH.due("19999 steps", c.run(0, 0, 19999), 1);
        BENCH.due("20000 steps", c.run(0, 1, 20000), 1);
    }

    private static void runWithoutCode() {
        IndexedCompiler c = BENCH.sentence("run: IllegalState: as with code");
        BENCH.dueThrow("no functions", Bench.STATE, () -> c.run(0, 0, 1));
        BENCH.dueThrow("IllegalArgument goes first", Bench.ARGUMENT, () -> c.run(0, 0, 0));
        c.check();
        BENCH.dueThrow("still none", Bench.STATE, () -> c.run(0, 0, 1));
        BENCH.dueDefined("fun f(): int = 1");
        BENCH.dueThrow("not checked", Bench.STATE, () -> c.run(0, 0, 1));
        c.check();
        BENCH.due("checked", c.run(0, 0, 9), 1);
        for (int function : new int[] {-1, 1, 8, Integer.MIN_VALUE, Integer.MAX_VALUE}) {
            BENCH.dueThrow("function " + function, Bench.STATE, () -> c.run(function, 0, 1));
        }
        BENCH.dueDefined("fun g(): int(1) = 2");
        BENCH.dueThrow("told since", Bench.STATE, () -> c.run(0, 0, 1));
        c.check();
        BENCH.dueThrow("not accepted", Bench.STATE, () -> c.run(0, 0, 1));
        c.clear();
        BENCH.dueThrow("cleared", Bench.STATE, () -> c.run(0, 0, 1));
        BENCH.due("what was told before is still told", c.told(1), 1);
    }

    // ---- UNFIT

    private static void slotsOfTheOtherKind() {
        BENCH.sentence("UNFIT if a SLOT is a row where a number must be, or the other way");
        BENCH.dueCheck(1, "fun f(a: int, b: row(0), c: int, d: row(0), e: int): int = 1");
        for (int wrong = -1; wrong <= 5; wrong++) {
            for (int slot = 0; slot < 6; slot++) {
                if (slot % 2 == 1 != (slot == wrong)) {
                    BENCH.c.make(slot, 0);
                } else {
                    BENCH.c.set(slot, 0);
                }
            }
            BENCH.due("wrong in SLOT " + wrong, BENCH.c.run(0, 0, 9), wrong >= 0 && wrong < 5 ? UNFIT : 1);
        }
        BENCH.dueCheck(1, "fun f(): int = 1");
        BENCH.c.make(0, 5);
        BENCH.due("without PARAMETERS", BENCH.c.run(0, 0, 9), 1);
    }

    private static void slotsInTheirOrder() {
        BENCH.sentence("takes its PARAMETERS from SLOTS 0, 1, ..");
        for (int k = 0; k < 5; k++) {
            BENCH.dueCheck(1, "fun f(a: int, b: int, c: int, d: int, e: int): int = " + "abcde".charAt(k));
            dueRun(1, 10 + k, 10, 11, 12, 13, 14, 15);
        }
        BENCH.dueCheck(1, "fun f(a: row(2), b: int, c: row(2)): int = a[0] * 1 + a[1] * 10 + b * 100 + c[0] * 500 + c[1] * 999");
        BENCH.c.make(0, 2);
        BENCH.c.put(0, 0, 1);
        BENCH.c.put(0, 1, 2);
        BENCH.c.set(1, 3);
        BENCH.c.make(2, 2);
        BENCH.c.put(2, 0, 4);
        BENCH.c.put(2, 1, 5);
        BENCH.due("run", BENCH.c.run(0, 0, 99), 1);
        BENCH.due("a row's numbers in this order", BENCH.c.told(1), 1 + 20 + 300 + 2000 + 4995);
    }

    private static void valuesInTheirOrder() {
        BENCH.sentence("its INDEX NAMES from VALUES 0, 1, ..");
        for (int k = 0; k < 4; k++) {
            BENCH.dueCheck(1, "fun f{n, m, p, q}(x: int(" + "nmpq".charAt(k) + ")): int = x");
            for (int value = 0; value < 4; value++) {
                BENCH.c.value(value, 20 + value);
            }
            dueFit(true, 20 + k);
            dueFit(false, 20 + (k + 1) % 4);
        }
        BENCH.dueCheck(1, "fun f{n}(x: int(n)): int = x");
        dueFit(true, 0);
        dueFit(false, 1);
    }

    private static void parametersInIndexes() {
        BENCH.sentence("that a PARAMETER is of its TYPE: by the SLOTS of those before it");
        for (int k = 0; k < 4; k++) {
            BENCH.dueCheck(1, "fun f{n}(a: int, b: int, c: int, d: int, e: int(" + "abcd".charAt(k) + ")): int = 1");
            BENCH.c.value(0, 99);
            dueFit(true, 10, 11, 12, 13, 10 + k);
            dueFit(false, 10, 11, 12, 13, 14);
            dueFit(false, 10, 11, 12, 13, 99);
        }
        // A NAME of one letter is a NAME as others are.
        for (char name = 'a'; name <= 'z'; name++) {
            BENCH.dueCheck(1, "fun f{" + name + " | " + name + " > 4}(ff: int(" + name + ")): int = 1");
            BENCH.c.value(0, 5);
            dueFit(true, 5);
            dueFit(false, 0);
            BENCH.c.value(0, 4);
            dueFit(false, 4);
        }
    }

    private static void propsThatDoNotHold() {
        BENCH.sentence("UNFIT, then if its PROPS do not hold");
        for (int r = 0; r < 5; r++) {
            BENCH.dueCheck(1, "fun f{n, m | n " + Bench.RELATIONS[r] + " 2*m + 1}(): int = 1");
            BENCH.c.value(1, 5);
            for (int n = 10; n <= 12; n++) {
                BENCH.c.value(0, n);
                dueFit(Bench.holds(r, n, 11));
            }
        }
        for (int wrong = 0; wrong <= 4; wrong++) {
            BENCH.dueCheck(1, "fun f{n | n > 0 & n > 1 & n > 2 & n > 3}(): int = 1");
            BENCH.c.value(0, wrong);
            dueFit(wrong == 4);
        }
        BENCH.dueCheck(1, "fun f{n | n < 4 & n < 3 & n < 2 & n < 1}(): int = 1");
        for (int n = 0; n <= 4; n++) {
            BENCH.c.value(0, n);
            dueFit(n == 0);
        }
    }

    private static void typesThatDoNotHold() {
        BENCH.sentence("UNFIT, or that a PARAMETER is of its TYPE, does not hold: int { i | P }, and int");
        for (int r = 0; r < 5; r++) {
            BENCH.dueCheck(1, "fun f{n}(y: int, x: int{i | i " + Bench.RELATIONS[r] + " n + y}): int = 1");
            BENCH.c.value(0, 3);
            for (int x = 10; x <= 12; x++) {
                dueFit(Bench.holds(r, x, 11), 8, x);
            }
        }
        BENCH.dueCheck(1, "fun f(x: int{i | i >= 0 & i <= 9 & 2*i >= 3 & 3*i <= 20}): int = 1");
        for (int x = -1; x <= 10; x++) {
            dueFit(x >= 2 && x <= 6, x);
        }
        for (int wrong = 0; wrong < 5; wrong++) {
            BENCH.dueCheck(1, "fun f(a: int{i|i>0}, b: int{i|i>0}, c: int{i|i>0}, d: int{i|i>0}, e: int{i|i>0}): int = 1");
            int[] numbers = {1, 1, 1, 1, 1};
            dueFit(true, numbers);
            numbers[wrong] = 0;
            dueFit(false, numbers);
        }
        BENCH.dueCheck(1, "fun f(x: int): int = 1");
        dueFit(true, MILLIARD);
        dueFit(true, -MILLIARD);
    }

    private static void exactTypesThatDoNotHold() {
        BENCH.sentence("UNFIT: int ( I ) holds for I alone");
        BENCH.dueCheck(1, "fun f{n}(x: int(7), y: int(2*n - x)): int = 1");
        BENCH.c.value(0, 5);
        dueFit(true, 7, 3);
        dueFit(false, 6, 4);
        dueFit(false, 6, 3);
        dueFit(false, 8, 2);
        dueFit(false, 7, 2);
        dueFit(false, 7, 4);
    }

    private static void rowsThatDoNotFit() {
        BENCH.sentence("UNFIT: row ( I ) holds for a row as long as I alone");
        BENCH.dueCheck(1, "fun f{n}(x: int, a: row(n + x)): int = len a");
        for (int n = -1; n <= 1; n++) {
            BENCH.c.value(0, n);
            for (int length = 0; length <= 2; length++) {
                BENCH.c.make(1, length);
                dueFit(length == n + 1, 1);
            }
        }
        BENCH.c.value(0, -5);
        BENCH.c.make(1, 0);
        dueFit(false, 1);
        dueFit(true, 5);
        BENCH.dueCheck(1, "fun f(a: row(40)): int = len a");
        BENCH.c.make(0, 40);
        dueRun(1, 40);
        BENCH.c.make(0, 39);
        dueFit(false);
    }

    private static void greatNumbersOfIndexes() {
        BENCH.sentence("INDEXES of SLOTS and VALUES are not cut, however great they are");
        BENCH.dueCheck(1, "fun f{n}(x: int{i | 999*n + 999*i > 999*n + 998*i + 999*n - 999*n}): int = 1");
        BENCH.c.value(0, MILLIARD);
        dueFit(true, 1);
        dueFit(true, MILLIARD);
        dueFit(false, 0);
        dueFit(false, -MILLIARD);
        BENCH.dueCheck(1, "fun f{n}(x: int{i | 5*i = 5*n}): int = 1");
        BENCH.c.value(0, MILLIARD);
        dueFit(true, MILLIARD);
        dueFit(false, MILLIARD - 1);
        // 5 n, cut to 32 bits, would be 705,032,704.
        BENCH.dueCheck(1, "fun f{n}(x: int{i | 5*n > i}): int = 1");
        BENCH.c.value(0, MILLIARD);
        dueFit(true, MILLIARD);
        BENCH.dueCheck(1, "fun f{n | 5*n > 0}(x: int(3*n)): int = 1");
        BENCH.c.value(0, MILLIARD);
        dueFit(false, -MILLIARD);
    }

    private static void unfitChangesNothing() {
        BENCH.sentence("with UNFIT nothing is changed; told: of the last RUN that was not UNFIT");
        BENCH.dueCheck(1, "fun f{n}(x: int{i | i > n}, a: row(1)): row(1) = out 5; a[0] := x; a");
        IndexedCompiler c = BENCH.c;
        c.make(1, 1);
        c.put(1, 0, 77);
        BENCH.due("the first one is UNFIT", c.run(0, 0, 99), UNFIT);
        BENCH.dueTold(0, 0, 0, 0, 0, 0, 0, 0);
        BENCH.due("nothing printed", c.printed(0, false), NONE);
        BENCH.due("nothing answered", c.printed(0, true), NONE);
        BENCH.due("the row", c.get(1, 0), 77);
        c.set(0, 3);
        BENCH.due("fit", c.run(0, 0, 99), 1);
        BENCH.dueTold(1, 1, 10, 1, 1, 1, 1, 2);
        c.set(0, 0);
        c.put(1, 0, 66);
        BENCH.due("UNFIT", c.run(0, 1, 1), UNFIT);
        BENCH.dueTold(1, 1, 10, 1, 1, 1, 1, 2);
        BENCH.due("printed", c.printed(0, false), 5);
        BENCH.due("answered", c.printed(0, true), 3);
        BENCH.due("the row stays", c.get(1, 0), 66);
        BENCH.due("the value stays", c.value(0, 0), 0);
    }

    // ---- faults

    private static void stepsGranted() {
        BENCH.sentence("STEPS: one more than granted");
        BENCH.dueCheck(1, "fun f(): int = 1; 2; 3");
        for (int granted = 1; granted <= 7; granted++) {
            BENCH.due("granted " + granted, BENCH.c.run(0, granted % 2, granted), granted < 6 ? STEPS : 1);
            BENCH.dueTold(granted < 6 ? STEPS : 1, granted < 6 ? 0 : 3, Math.min(granted, 6), 0, 0, 0, 1, 0);
        }
    }

    /** f of 10 makes 19442 steps, h of y makes 5 + 9 y; with what g itself makes there are 20000, and 20001. */
    private static void twentyThousandSteps() {
        BENCH.sentence("at most 20000 steps can be granted");
        String f = "fun f(x: int): int = if x > 0 then f(x - 1); f(x - 1) else 0 end";
        String h = "fun h(y: int): int = if y > 0 then h(y - 1) else 0 end";
        BENCH.dueCheck(1, "fun g(x: int, y: int): int = " + "1;".repeat(17) + "f(x); h(y)", f, h);
        slots(10, 57);
        BENCH.due("20000", BENCH.c.run(0, 0, 20000), 1);
        BENCH.due("made", BENCH.c.told(2), 20000);
        BENCH.due("19999", BENCH.c.run(0, 0, 19999), STEPS);
        BENCH.due("made", BENCH.c.told(2), 19999);
        BENCH.dueCheck(1, "fun g(x: int, y: int): int = " + "1;".repeat(13) + "f(x); h(y)", f, h);
        slots(10, 58);
        BENCH.due("20001", BENCH.c.run(0, 0, 20000), STEPS);
        BENCH.due("made", BENCH.c.told(2), 20000);
    }

    /** With x calls more, 4 x numbers are on the stack when the last call begins; it pushes so many more. */
    private static void dueStack(int end, int x, int pushes) {
        String last = "1 + (".repeat(pushes - 1) + "1" + ")".repeat(pushes - 1);
        BENCH.dueCheck(1, "fun f(x: int): int = if x > 0 then 1 + (2 + (3 + (4 + f(x - 1)))) else " + last + " end");
        dueRun(end, end == 1 ? 10 * x + pushes : 0, x);
    }

    private static void twoHundredNumbers() {
        BENCH.sentence("STACK: more than 200 numbers on the stack (of all calls together)");
        dueStack(1, 49, 3);
        dueStack(1, 49, 4);
        dueStack(STACK, 49, 5);
        dueStack(1, 48, 8);
        dueStack(STACK, 48, 9);
        dueStack(1, 47, 9);
        // By 1, push local, as by 0.
        BENCH.dueCheck(1, "fun f(x: int): int = if x > 0 then 1 + (2 + (3 + (4 + f(x - 1)))) else x + (x + (x + x)) end");
        dueRun(1, 490, 49);
        BENCH.dueCheck(1, "fun f(x: int): int = if x > 0 then 1 + (2 + (3 + (4 + f(x - 1)))) else x + (x + (x + (x + x))) end");
        dueRun(STACK, 0, 49);
        // What is taken away is not there any more.
        BENCH.dueCheck(1, "fun f(): int = " + "1;".repeat(220) + "2");
        dueRun(1, 2);
        BENCH.dueCheck(1, "fun f(): int = " + "1+".repeat(220) + "2");
        dueRun(1, 222);
    }

    private static void localsAreNotOnTheStack() {
        BENCH.sentence("STACK: locals not among them");
        BENCH.dueCheck(1, "fun f(a: int, b: int, c: int, d: int, e: int): int = let g = a in let h = b in let i = c in let j = d in let k = e in "
            + "if a > 1 then f(g - 1, h, i, j, k) else b end");
        dueRun(1, 2, 60, 2, 3, 4, 5);
        BENCH.due("calls", BENCH.c.told(6), 60);
    }

    private static void sixtyCalls() {
        BENCH.sentence("STACK: or more than 60 calls in one another (the first one among them)");
        BENCH.dueCheck(1, "fun f(x: int): int = if x > 1 then f(x - 1) else 7 end");
        dueRun(1, 7, 59);
        dueRun(1, 7, 60);
        BENCH.due("most calls", BENCH.c.told(6), 60);
        dueRun(STACK, 0, 61);
        // By several functions, and behind calls that are over.
        BENCH.dueCheck(1, "fun f(x: int): int = g(3); g(x)", "fun g(x: int): int = if x > 1 then h(x - 1) else 7 end",
            "fun h(x: int): int = if x > 1 then g(x - 1) else 8 end");
        dueRun(1, 7, 59);
        BENCH.due("most calls", BENCH.c.told(6), 60);
        dueRun(STACK, 0, 60);
        BENCH.dueCheck(1, "fun f(x: int): int = " + "g();".repeat(80) + "9", "fun g(): int(1) = 1");
        dueRun(1, 9, 0);
        BENCH.due("most calls", BENCH.c.told(6), 2);
    }

    private static void overOfSums() {
        BENCH.sentence("OVER: a number beyond 1,000,000,000 comes of 4, 5");
        BENCH.dueCheck(1, "fun f(x: int, y: int): int = x + y");
        dueRun(1, MILLIARD, MILLIARD - 1, 1);
        dueRun(1, MILLIARD, MILLIARD, 0);
        dueRun(OVER, 0, MILLIARD, 1);
        dueRun(OVER, 0, MILLIARD, MILLIARD);
        dueRun(1, -MILLIARD, -MILLIARD + 1, -1);
        dueRun(OVER, 0, -MILLIARD, -1);
        dueRun(OVER, 0, -MILLIARD, -MILLIARD);
        BENCH.dueCheck(1, "fun f(x: int, y: int): int = x - y");
        dueRun(1, -MILLIARD, -MILLIARD + 1, 1);
        dueRun(OVER, 0, -MILLIARD, 1);
        dueRun(OVER, 0, -MILLIARD, MILLIARD);
        dueRun(1, MILLIARD, 0, -MILLIARD);
        dueRun(OVER, 0, 1, -MILLIARD);
        dueRun(OVER, 0, MILLIARD, -MILLIARD);
    }

    private static void overOfProducts() {
        BENCH.sentence("OVER: a number beyond 1,000,000,000 comes of 6");
        BENCH.dueCheck(1, "fun f(x: int, y: int): int = x * y");
        dueRun(1, MILLIARD, 40000, 25000);
        dueRun(1, -MILLIARD, -40000, 25000);
        dueRun(1, 999999999, 333333333, 3);
        dueRun(OVER, 0, 333333334, 3);
        dueRun(OVER, 0, -333333334, 3);
        // 1,000,000,001 itself.
        dueRun(OVER, 0, 142857143, 7);
        dueRun(OVER, 0, 142857143, -7);
        dueRun(1, 999999994, 142857142, 7);
        dueRun(OVER, 0, MILLIARD, MILLIARD);
        dueRun(OVER, 0, MILLIARD, -MILLIARD);
        // 65536 times 65536 would be 0 if it were cut.
        dueRun(OVER, 0, 65536, 65536);
        dueRun(1, MILLIARD, 1, MILLIARD);
        dueRun(1, 0, 0, -MILLIARD);
    }

    private static void overOfNothingElse() {
        BENCH.sentence("OVER: of 4, 5, 6 alone");
        BENCH.dueCheck(1, "fun f(x: int, a: row(1)): int = a[0] := out x; let y = a[0] in y / 1");
        BENCH.c.make(1, 1);
        dueRun(1, MILLIARD, MILLIARD);
        dueRun(1, -MILLIARD, -MILLIARD);
        BENCH.due("printed", BENCH.c.printed(0, false), -MILLIARD);
        BENCH.due("put", BENCH.c.get(1, 0), -MILLIARD);
    }

    private static void negativeRows() {
        BENCH.sentence("NEGATIVE: a new row would be shorter than 0");
        BENCH.dueCheck(1, "fun f(x: int): int = let a = new x in len a");
        dueRun(1, 1, 1);
        dueRun(1, 0, 0);
        dueRun(NEGATIVE, 0, -1);
        dueRun(NEGATIVE, 0, -MILLIARD);
        BENCH.due("cells", BENCH.c.told(7), 0);
    }

    private static void sixHundredCells() {
        BENCH.sentence("600 CELLS. A row takes one for its length and as many as it is long. MEMORY: there are not as many CELLS");
        BENCH.dueCheck(1, "fun f(x: int): int = let a = new x in len a");
        dueRun(1, 0, 0);
        BENCH.due("a row of 0", BENCH.c.told(7), 1);
        dueRun(1, 598, 598);
        BENCH.due("cells", BENCH.c.told(7), 599);
        dueRun(1, 599, 599);
        BENCH.due("cells", BENCH.c.told(7), 600);
        dueRun(MEMORY, 0, 600);
        BENCH.due("none was taken", BENCH.c.told(7), 0);
        dueRun(MEMORY, 0, MILLIARD);
        BENCH.dueCheck(1, "fun f(x: int, y: int): int = let a = new x in let b = new y in len a + len b");
        dueRun(1, 598, 598, 0);
        BENCH.due("cells", BENCH.c.told(7), 600);
        dueRun(MEMORY, 0, 599, 0);
        BENCH.due("cells", BENCH.c.told(7), 600);
        dueRun(MEMORY, 0, 598, 1);
        BENCH.due("cells", BENCH.c.told(7), 599);
        dueRun(NEGATIVE, 0, 599, -1);
    }

    private static void cellsOfParameters() {
        BENCH.sentence("A RUN takes its PARAMETERS from SLOTS (a row's numbers into a row of its own)");
        BENCH.dueCheck(1, "fun f(x: int, a: row(40), b: row(40), c: row(40), d: row(40)): int = let e = new x in len e");
        for (int slot = 1; slot <= 4; slot++) {
            BENCH.c.make(slot, 40);
        }
        dueRun(1, 0, 0);
        BENCH.due("cells", BENCH.c.told(7), 165);
        dueRun(1, 435, 435);
        BENCH.due("cells", BENCH.c.told(7), 600);
        dueRun(MEMORY, 0, 436);
        BENCH.due("cells", BENCH.c.told(7), 164);
        BENCH.dueCheck(1, "fun f(a: row(0)): int = 1");
        BENCH.c.make(0, 0);
        dueRun(1, 1);
        BENCH.due("of an empty row", BENCH.c.told(7), 1);
        BENCH.c.make(1, 40);
        BENCH.c.make(5, 40);
        dueRun(1, 1);
        BENCH.due("a SLOT that is no PARAMETER takes none", BENCH.c.told(7), 1);
    }

    private static void noneComesBack() {
        BENCH.sentence("none comes back in a run");
        BENCH.dueCheck(1, "fun f(x: int): int = new 99; if x > 1 then f(x - 1) else 5 end");
        dueRun(1, 5, 6);
        BENCH.due("cells", BENCH.c.told(7), 600);
        dueRun(MEMORY, 0, 7);
        BENCH.due("cells", BENCH.c.told(7), 600);
        dueRun(1, 5, 6);
        BENCH.dueCheck(1, "fun f(): int = " + "g();".repeat(6) + "1", "fun g(): int = let a = new 99 in 1");
        dueRun(1, 1);
        BENCH.dueCheck(1, "fun f(): int = " + "g();".repeat(7) + "1", "fun g(): int = let a = new 99 in 1");
        dueRun(MEMORY, 0);
    }

    private static void rowsAreAll0() {
        BENCH.sentence("9 a new row, all 0");
        BENCH.dueCheck(1, "fun f(x: int): int = let a = new 3 in let s = a[0] + a[1] + a[2] in a[0] := x; a[1] := x; a[2] := x; s");
        dueRun(1, 0, 7);
        dueRun(1, 0, 8);
        BENCH.dueCheck(1, "fun f(x: int, b: row(3)): int = let a = new 3 in a[0] + a[1] + a[2]");
        BENCH.c.make(1, 3);
        BENCH.c.put(1, 0, 5);
        BENCH.c.put(1, 2, 6);
        dueRun(1, 0, 1);
    }

    private static void outsideOfGet() {
        BENCH.sentence("OUTSIDE: 10 with a number below 0 or not below the length");
        BENCH.dueCheck(1, "fun f{n}(i: int, a: row(n)): int = a[i]");
        BENCH.c.make(1, 3);
        BENCH.c.value(0, 3);
        for (int k = 0; k < 3; k++) {
            BENCH.c.put(1, k, 50 + k);
            dueRun(1, 50 + k, k);
        }
        for (int i : new int[] {-1, 3, 4, MILLIARD, -MILLIARD}) {
            dueRun(OUTSIDE, 0, i);
        }
        BENCH.c.make(1, 0);
        BENCH.c.value(0, 0);
        dueRun(OUTSIDE, 0, 0);
        dueRun(OUTSIDE, 0, -1);
    }

    private static void outsideOfPut() {
        BENCH.sentence("OUTSIDE: 12 with a number below 0 or not below the length");
        BENCH.dueCheck(1, "fun f{n}(i: int, a: row(n), b: row(1)): int = a[i] := 9");
        BENCH.c.make(1, 3);
        BENCH.c.make(2, 1);
        BENCH.c.value(0, 3);
        for (int i : new int[] {-1, 3, 4, MILLIARD, -MILLIARD}) {
            dueRun(OUTSIDE, 0, i);
        }
        for (int k = 0; k < 3; k++) {
            BENCH.due("nothing was put", BENCH.c.get(1, k) + BENCH.c.get(2, 0), 0);
        }
        for (int k = 0; k < 3; k++) {
            dueRun(1, 9, k);
            BENCH.due("put", BENCH.c.get(1, k), 9);
        }
        BENCH.c.make(1, 0);
        BENCH.c.value(0, 0);
        dueRun(OUTSIDE, 0, 0);
    }

    private static void freeOnesDoNotLook() {
        BENCH.sentence("13 and 11 do not look");
        BENCH.dueCheck(1, "fun f(a: row(2), i: int): int = a[0] := 7; a[0]; a[i]; a[i] := a[1]");
        BENCH.c.make(0, 2);
        BENCH.c.set(1, 1);
        BENCH.due("all look", BENCH.c.run(0, 0, 99), 1);
        BENCH.due("checks", BENCH.c.told(3), 5);
        BENCH.due("accesses", BENCH.c.told(4), 5);
        int steps = BENCH.c.told(2);
        BENCH.due("some do not", BENCH.c.run(0, 1, 99), 1);
        BENCH.due("checks", BENCH.c.told(3), 2);
        BENCH.due("accesses", BENCH.c.told(4), 5);
        BENCH.due("as many steps", BENCH.c.told(2), steps);
    }

    private static void whatWasPutIsLeft() {
        BENCH.sentence("12 and 13 leave what was put");
        BENCH.dueCheck(1, "fun f(a: row(2), i: int): int = (a[0] := 7) * 10 + (a[i] := 8)");
        BENCH.c.make(0, 2);
        BENCH.c.set(1, 1);
        for (int how = 0; how <= 1; how++) {
            BENCH.due("run", BENCH.c.run(0, how, 99), 1);
            BENCH.due("answer", BENCH.c.told(1), 78);
        }
        BENCH.due("both are put", BENCH.c.get(0, 0) * 10 + BENCH.c.get(0, 1), 78);
    }

    private static void roundedDown() {
        BENCH.sentence("7 divide by n, rounded down");
        for (int n : new int[] {1, 2, 3, 999}) {
            BENCH.dueCheck(1, "fun f(x: int): int = x / " + n);
            for (int x : new int[] {0, 1, n - 1, n, n + 1, -1, -n + 1, -n, -n - 1, MILLIARD, -MILLIARD}) {
                dueRun(1, Math.floorDiv(x, n), x);
            }
        }
    }

    private static void relationsAtTheirBoundary() {
        BENCH.sentence("17 .. 21 go on at n unless the RELATION holds");
        for (int r = 0; r < 5; r++) {
            BENCH.dueCheck(1, "fun f(x: int, y: int): int = if x " + Bench.RELATIONS[r] + " y then 1 else 2 end");
            for (int x = 6; x <= 8; x++) {
                dueRun(1, Bench.holds(r, x, 7) ? 1 : 2, x, 7);
                dueRun(1, Bench.holds(r, -x, -7) ? 1 : 2, -x, -7);
            }
            dueRun(1, Bench.holds(r, -MILLIARD, MILLIARD) ? 1 : 2, -MILLIARD, MILLIARD);
            dueRun(1, Bench.holds(r, MILLIARD, -MILLIARD) ? 1 : 2, MILLIARD, -MILLIARD);
        }
    }

    private static void stepsGoFirst() {
        BENCH.sentence("Of several, STEPS goes first");
        String[] texts = {
            "fun f(x: int, a: row(1)): int = 1 + (1 + (1 + (1 + f(x, a))))", "fun f(x: int, a: row(1)): int = f(x, a)",
            "fun f(x: int, a: row(1)): int = 1; x + x", "fun f(x: int, a: row(1)): int = 0 - x - x",
            "fun f(x: int, a: row(1)): int = x * x", "fun f(x: int, a: row(1)): int = new (0 - x); 1",
            "fun f(x: int, a: row(1)): int = new x; 1", "fun f(x: int, a: row(1)): int = a[x]",
            "fun f(x: int, a: row(1)): int = a[x] := 1"
        };
        int[] faults = {STACK, STACK, OVER, OVER, OVER, NEGATIVE, MEMORY, OUTSIDE, OUTSIDE};
        for (int k = 0; k < texts.length; k++) {
            BENCH.dueCheck(1, texts[k]);
            BENCH.c.set(0, MILLIARD);
            BENCH.c.make(1, 1);
            BENCH.due("fault of " + texts[k], BENCH.c.run(0, 0, 20000), faults[k]);
            int made = BENCH.c.told(2);
            BENCH.due("as many steps", BENCH.c.run(0, 0, made), faults[k]);
            BENCH.due("made", BENCH.c.told(2), made);
            BENCH.due("one less", BENCH.c.run(0, 0, made - 1), STEPS);
            BENCH.due("made", BENCH.c.told(2), made - 1);
        }
    }

    private static void slotsBehindARun() {
        BENCH.sentence("Behind a RUN, also one that a fault ended, rows in SLOTS are as they became");
        String text = "fun f(a: row(2), x: int, b: row(2)): int = a[0] := 1; b[1] := 2; a[1] := 3; let c = new 2 in c[0] := 9; ?";
        String[] ends = {"4", "x * x", "new (0 - 1); 1", "new x; 1", "a[x]", "b[x] := 1", "f(a, x, b)"};
        int[] faults = {1, OVER, NEGATIVE, MEMORY, OUTSIDE, OUTSIDE, STACK};
        for (int k = 0; k < ends.length; k++) {
            for (int how = 0; how <= 1; how++) {
                BENCH.dueCheck(1, text.replace("?", ends[k]));
                BENCH.c.make(0, 2);
                BENCH.c.set(1, MILLIARD);
                BENCH.c.make(2, 2);
                BENCH.c.make(3, 2);
                BENCH.due("run with " + ends[k], BENCH.c.run(0, how, 20000), faults[k]);
                BENCH.due("a", BENCH.c.get(0, 0) * 10 + BENCH.c.get(0, 1), 13);
                BENCH.due("b", BENCH.c.get(2, 0) * 10 + BENCH.c.get(2, 1), 2);
                BENCH.due("x stays", BENCH.c.get(1, NONE), MILLIARD);
                BENCH.due("what is no PARAMETER stays", BENCH.c.get(3, 0) + BENCH.c.get(3, 1), 0);
                BENCH.due("lengths stay", BENCH.c.get(0, NONE) * 10 + BENCH.c.get(2, NONE), 22);
            }
        }
        for (int granted = 1; granted <= 12; granted++) {
            BENCH.c.make(0, 2);
            BENCH.c.make(2, 2);
            BENCH.due("steps", BENCH.c.run(0, 0, granted), STEPS);
            BENCH.due("a so far", BENCH.c.get(0, 0), granted >= 4 ? 1 : 0);
            BENCH.due("b so far", BENCH.c.get(2, 1), granted >= 9 ? 2 : 0);
        }
    }

    // ---- what is told

    private static void toldWhat() {
        BENCH.sentence("told: what = 0 .. 7. IllegalArgument: another what");
        BENCH.dueCheck(1, "fun f(a: row(3), i: int): int = out (a[i] + a[0]); g(new 4); 9", "fun g(b: row(4)): int = 1");
        BENCH.c.make(0, 3);
        BENCH.due("run", BENCH.c.run(0, 1, 99), 1);
        BENCH.dueTold(1, 9, 17, 1, 2, 1, 2, 9);
        for (int what : new int[] {-1, 8, Integer.MIN_VALUE, Integer.MAX_VALUE}) {
            BENCH.dueThrow("told " + what, Bench.ARGUMENT, () -> BENCH.c.told(what));
        }
    }

    private static void toldOfNone() {
        IndexedCompiler c = BENCH.sentence("told: 0 if there was none");
        BENCH.dueTold(0, 0, 0, 0, 0, 0, 0, 0);
        BENCH.dueDefined("fun f(x: int(1)): int = 1");
        c.check();
        BENCH.dueTold(0, 0, 0, 0, 0, 0, 0, 0);
        BENCH.due("UNFIT is none", c.run(0, 0, 1), UNFIT);
        BENCH.dueTold(0, 0, 0, 0, 0, 0, 0, 0);
        c.set(0, 1);
        BENCH.due("STEPS is one", c.run(0, 0, 1), STEPS);
        BENCH.dueTold(STEPS, 0, 1, 0, 0, 0, 1, 0);
        c.clear();
        BENCH.dueTold(STEPS, 0, 1, 0, 0, 0, 1, 0);
    }

    private static void toldBehindAFault() {
        BENCH.sentence("told: 1 what it answered (a row's length; 0 behind a fault)");
        BENCH.dueCheck(1, "fun f(x: int): row(5) = x + 1; new 5");
        dueRun(1, 5, 0);
        BENCH.due("number 4 of its row", BENCH.c.printed(4, true), 0);
        dueRun(OVER, 0, MILLIARD);
        BENCH.due("no row", BENCH.c.printed(0, true), NONE);
        BENCH.dueCheck(1, "fun f(x: int): int = x + 1");
        dueRun(1, 8, 7);
        dueRun(OVER, 0, MILLIARD);
    }

    private static void checksAndAccesses() {
        BENCH.sentence("told: 3 checks made by 10 and 12 (also the one that failed), 4 accesses made");
        BENCH.dueCheck(1, "fun f(a: row(2), i: int): int = a[0]; a[1] := 1; a[i]");
        BENCH.c.make(0, 2);
        int[][] want = {{3, 3}, {1, 3}, {3, 2}, {1, 2}};
        for (int k = 0; k < 4; k++) {
            BENCH.c.set(1, k < 2 ? 1 : 2);
            BENCH.due("run", BENCH.c.run(0, k % 2, 99), k < 2 ? 1 : OUTSIDE);
            BENCH.due("checks", BENCH.c.told(3), want[k][0]);
            BENCH.due("accesses", BENCH.c.told(4), want[k][1]);
        }
        BENCH.dueCheck(1, "fun f(a: row(2), i: int): int = a[0]; a[1] := 1; a[i] := 5");
        BENCH.c.make(0, 2);
        for (int k = 0; k < 4; k++) {
            BENCH.c.set(1, k < 2 ? 1 : 2);
            BENCH.due("run", BENCH.c.run(0, k % 2, 99), k < 2 ? 1 : OUTSIDE);
            BENCH.due("checks", BENCH.c.told(3), want[k][0]);
            BENCH.due("accesses", BENCH.c.told(4), want[k][1]);
        }
    }

    private static void mostCalls() {
        BENCH.sentence("told: 6 most calls in one another");
        BENCH.dueCheck(1, "fun f(x: int): int = if x > 1 then g(); f(x - 1) else 1 end", "fun g(): int = 1");
        for (int x = 1; x <= 5; x++) {
            dueRun(1, 1, x);
            BENCH.due("most calls", BENCH.c.told(6), x);
        }
        BENCH.dueCheck(1, "fun f(x: int): int = g(); 1", "fun g(): int = h(); 1", "fun h(): int = 1");
        dueRun(1, 1, 0);
        BENCH.due("the most, not the last", BENCH.c.told(6), 3);
    }

    private static void aHundredAreKept() {
        BENCH.sentence("printed: the first 100 are kept");
        BENCH.dueCheck(1, "fun f(x: int): int = if x > 0 then out x; out (x + 500); f(x - 1) else 0 end",
            "fun g(x: int, y: int): int = out y; f(x)");
        int[] function = {1, 0, 1};
        int[] x = {49, 50, 50};
        int[] printed = {99, 100, 101};
        for (int k = 0; k < 3; k++) {
            slots(x[k], 7);
            BENCH.due("run", BENCH.c.run(function[k], 0, 20000), 1);
            BENCH.due("printed", BENCH.c.told(5), printed[k]);
            BENCH.due("the first", BENCH.c.printed(0, false), function[k] == 1 ? 7 : 50);
            BENCH.due("the 99th", BENCH.c.printed(98, false), printed[k] == 99 ? 501 : printed[k] == 100 ? 1 : 502);
            BENCH.due("the 100th", BENCH.c.printed(99, false), printed[k] == 99 ? NONE : printed[k] == 100 ? 501 : 1);
            BENCH.due("the 101st", BENCH.c.printed(100, false), NONE);
        }
        for (int k : new int[] {-1, Integer.MIN_VALUE, Integer.MAX_VALUE}) {
            BENCH.due("printed " + k, BENCH.c.printed(k, false), NONE);
            BENCH.due("answered " + k, BENCH.c.printed(k, true), NONE);
        }
    }

    private static void printedOfTheLastRun() {
        BENCH.sentence("printed: number k that the last RUN that was not UNFIT printed; NONE if there is none such");
        BENCH.dueCheck(1, "fun f(x: int): int = if x > 0 then out x; f(x - 1) else 0 end");
        slots(3);
        BENCH.c.run(0, 0, 999);
        BENCH.due("three", BENCH.c.printed(0, false) * 100 + BENCH.c.printed(1, false) * 10 + BENCH.c.printed(2, false), 321);
        BENCH.due("no fourth", BENCH.c.printed(3, false), NONE);
        slots(1);
        BENCH.c.run(0, 0, 999);
        BENCH.due("one", BENCH.c.printed(0, false), 1);
        BENCH.due("the second one of the RUN before is gone", BENCH.c.printed(1, false), NONE);
        slots(0);
        BENCH.c.run(0, 0, 999);
        BENCH.due("none", BENCH.c.printed(0, false), NONE);
        slots(2);
        BENCH.due("ended by a fault", BENCH.c.run(0, 0, 5), STEPS);
        BENCH.due("what it printed till then", BENCH.c.printed(0, false), 2);
        BENCH.due("no more", BENCH.c.printed(1, false), NONE);
        slots(2);
        BENCH.due("just before it prints", BENCH.c.run(0, 0, 4), STEPS);
        BENCH.due("nothing", BENCH.c.printed(0, false), NONE);
    }

    private static void rowsThatAreAnswered() {
        BENCH.sentence("printed: if row, number k of the row that it answered, as it is at its end; NONE if there is none such");
        BENCH.dueCheck(1, "fun f(a: row(2), n: int): row(2) = a[0] := 5; let b = a in b[1] := 6; out 1; b");
        BENCH.c.make(0, 2);
        BENCH.due("run", BENCH.c.run(0, 0, 99), 1);
        BENCH.due("numbers", BENCH.c.printed(0, true) * 10 + BENCH.c.printed(1, true), 56);
        BENCH.due("behind", BENCH.c.printed(2, true), NONE);
        BENCH.due("before", BENCH.c.printed(-1, true), NONE);
        BENCH.due("not the row", BENCH.c.printed(0, false), 1);
        BENCH.c.put(0, 0, 77);
        BENCH.c.make(0, 1);
        BENCH.due("as it was at its end", BENCH.c.printed(0, true), 5);
        BENCH.dueCheck(1, "fun f(n: int): row(0) = new 0");
        dueRun(1, 0, 1);
        BENCH.due("of an empty row", BENCH.c.printed(0, true), NONE);
        BENCH.dueCheck(1, "fun f(n: int): int = new 5; 3");
        dueRun(1, 3, 1);
        BENCH.due("of a number", BENCH.c.printed(0, true), NONE);
        BENCH.dueCheck(1, "fun f(n: int): row(599) = let a = new 599 in a[598] := 4; a");
        dueRun(1, 599, 1);
        BENCH.due("the last", BENCH.c.printed(598, true), 4);
        BENCH.due("behind it", BENCH.c.printed(599, true), NONE);
        for (int k : new int[] {Integer.MIN_VALUE, -2, 600, Integer.MAX_VALUE}) {
            BENCH.due("far", BENCH.c.printed(k, true), NONE);
        }
    }
}
