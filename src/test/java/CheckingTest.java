/** Promises 6 to 9: the first fault and its place, GOALS in their order, what is counted. */
public final class CheckingTest {
    private static final int NAME = IndexedCompiler.NAME;
    private static final int KIND = IndexedCompiler.KIND;
    private static final int COUNT = IndexedCompiler.COUNT;
    private static final int MANY = IndexedCompiler.MANY;
    private static final Bench BENCH = new Bench("CheckingTest");

    public static void main(String[] args) {
        nothingToCheck();
        names();
        kinds();
        kindsOfCalls();
        counts();
        whichFaultIsFirst();
        manyInIndexes();
        manyVariables();
        manyFacts();
        manyGoals();
        manyLocals();
        goalsOfAccesses();
        goalsOfCalls();
        goalsOfTypes();
        goalsUnderIf();
        goalsUnderIfThatIsWorkedOut();
        valuesOfIf();
        sumsAndProducts();
        expressionsThatAreTooGreat();
        shadows();
        longFunctions();
        whatIsCounted();
        wrongArguments();
        BENCH.end();
    }

    private static void nothingToCheck() {
        BENCH.dueCheck(1);
        BENCH.due("goals", BENCH.c.count(1), 0);
        BENCH.dueThrow("code", Bench.STATE, () -> BENCH.c.code(0, 0, 0));
        BENCH.dueCheck(1, "fun f(): int = 1");
        BENCH.dueGoals(new int[0][]);
    }

    private static void names() {
        String[] marked = {
            "fun f(a: row(^n)): int = 1", "fun f{n | n < ^m}(): int = 1", "fun f{n | ^m < n}(): int = 1",
            "fun f(): int(2*^m) = 1", "fun f(x: int(^x)): int = 1", "fun f(x: int(^y), y: int): int = 1",
            "fun f(x: int{i | i < 1}): int(^i) = 1", "fun f(x: int{i | i < 1 & 3 < ^j}): int = 1",
            "fun f(): int = ^x", "fun f{n}(): int = ^n", "fun f{n}(a: row(n)): int = ^n[0]", "fun f(): int = ^x[0]",
            "fun f(): int = ^x[0] := 1", "fun f{n}(): int = len ^n", "fun f(): int = len ^x", "fun f(): int = ^g()",
            "fun f{n}(): int = f{^m}()", "fun f{n}(): int = f{3 - 2*^m}()",
            "fun f(): int = (let x = 1 in x) + ^x", "fun f(): int = let x = ^x in 1", "fun f(): int = (1 : int(^x))",
            "fun f(): int = (1 : int{i | i = ^x})", "fun f(): int = if 1 < 2 then let y = 1 in y else ^y end",
            "fun f(x: int): int = ^x(1)"
        };
        for (String each : marked) {
            BENCH.dueFault(NAME, 0, each);
        }
        BENCH.dueCheck(1, "fun f(f: int): int = f + f(f)");
    }

    private static void kinds() {
        String[] marked = {
            "fun f{n}(a: row(n), b: int(^a)): int = 1", "fun f{n}(a: row(n)): row(n + 2*^a) = a",
            "fun f(a: row(1)): int = ^a + 1", "fun f(a: row(1)): int = 1 - ^a", "fun f(a: row(1)): int = ^a * 2",
            "fun f(a: row(1)): int = 2 * ^a", "fun f(a: row(1)): int = ^a / 2", "fun f(a: row(1)): int = 1 + ^(a) + 1",
            "fun f(a: row(1)): int = a[^a]", "fun f(x: int): int = ^x[0]", "fun f(x: int): int = ^x[0] := 1",
            "fun f(x: int): int = len ^x", "fun f(a: row(1)): row(1) = new ^a", "fun f(a: row(1)): int = out ^a",
            "fun f(a: row(1)): int = a[0] := ^a", "fun f(a: row(1)): int = if ^a < 1 then 1 else 2 end",
            "fun f(a: row(1)): int = if 1 < ^a then 1 else 2 end", "fun f(a: row(1)): int = ^a", "fun f(): row(1) = ^1",
            "fun f(a: row(1)): int = (((^a)))", "fun f(a: row(1)): int = 1; 2; ^a", "fun f(a: row(1)): int = let x = 1 in ^a",
            "fun f(a: row(1)): int = if 1 < 2 then 1 else 1; ^a end", "fun f(a: row(1)): row(1) = if 1 < 2 then ^2 + 3 else a end",
            "fun f(a: row(1)): int = (^a : int)", "fun f(a: row(1)): row(1) = (^1 : row(1))",
            "fun f(a: row(1)): int = ^(a : row(1))", "fun f(a: row(1)): int = let z = if 1 < 2 then a else ^1 end in 2",
            "fun f(a: row(1)): int = (if 1 < 2 then 3 else ^1; a end); 2", "fun f(a: row(1)): int = let b = a in ^b + 1",
            "fun f(a: row(1)): int = (let x = 1 in ^a)", "fun f(a: row(1)): int = 1 + ^(let x = 1 in a)",
            "fun f(a: row(1)): int = let a = 1 in ^a[0]"
        };
        for (String each : marked) {
            BENCH.dueFault(KIND, 0, each);
        }
    }

    private static void kindsOfCalls() {
        String g = "fun g(x: int, a: row(2)): row(2) = a";
        BENCH.dueFault(KIND, 1, g, "fun f(a: row(2)): row(2) = g(^a, a)");
        BENCH.dueFault(KIND, 1, g, "fun f(a: row(2)): row(2) = g(1, ^1)");
        BENCH.dueFault(KIND, 1, g, "fun f(a: row(2)): row(2) = g(^1; a, 1)");
        BENCH.dueFault(KIND, 1, g, "fun f(a: row(2)): row(2) = g(^a, x)");
        BENCH.dueFault(NAME, 1, g, "fun f(a: row(2)): row(2) = g(1, ^x)");
        BENCH.dueFault(KIND, 1, g, "fun f(a: row(2)): int = ^g(1, a)");
        BENCH.dueFault(KIND, 1, g, "fun f(a: row(2)): int = 1 + ^g(1, a)");
    }

    private static void counts() {
        BENCH.dueFault(COUNT, 0, "fun f{n}(x: int): int = ^f(1)");
        BENCH.dueFault(COUNT, 0, "fun f{n}(x: int): int = ^f{1, 2}(1)");
        BENCH.dueFault(COUNT, 0, "fun f(x: int): int = ^f{1}(1)");
        BENCH.dueFault(COUNT, 0, "fun f(x: int): int = 1 + ^f()");
        BENCH.dueFault(COUNT, 0, "fun f(x: int): int = ^f(1, 2)");
        BENCH.dueFault(COUNT, 0, "fun f(): int = ^f(1)");
        BENCH.dueFault(COUNT, 0, "fun f{n}(x: int): int = ^f{m}(y, z)");
    }

    private static void whichFaultIsFirst() {
        BENCH.dueFault(NAME, 1, "fun f(): int = x", "fun g(): int(^n) = 1");
        BENCH.dueFault(NAME, 0, "fun f(): int = ^x", "fun g(): int = n");
        BENCH.dueFault(KIND, 2, "fun f(): int = x", "fun g(): int = y", "fun h(a: row(1)): int(^a) = z");
        BENCH.dueFault(KIND, 0, "fun f(a: row(1)): int = ^a + x");
        BENCH.dueFault(NAME, 0, "fun f(a: row(1)): int = ^x + a");
        BENCH.dueFault(NAME, 0, "fun f(a: row(1)): int = (a : int(^x))");
        BENCH.dueFault(NAME, 0, "fun f(a: row(1)): int = a[1] := ^x; y");
        BENCH.dueFault(KIND, 0, "fun f(x: int): int = ^x[y]");
        BENCH.dueFault(NAME, 0, "fun f{n}(x: int): int = f{^m}(y)");
        BENCH.dueFault(NAME, 0, "fun f{n}(x: int): int = f{1}(^y)");
        BENCH.dueFault(KIND, 0, "fun f(a: row(1)): int = if ^a < x then y else z end");
    }

    private static void manyInIndexes() {
        BENCH.dueCheck(1, "fun f{n}(x: int(999*n), y: int(2*x + 999*x)): int = 1");
        BENCH.dueFault(MANY, 0, "fun f{n}(x: int(999*n), y: int(^3*x + 999*x)): int = 1");
        BENCH.dueFault(MANY, 0, "fun f{n}(x: int(999*n)): int{i | i < ^1 + 999*x + 3*x} = 1");
        BENCH.dueFault(MANY, 0, "fun f{n}(x: int(999*n)): int = f{^0 - 999*x - 3*x}(1)");
        // 1,000,000 is not beyond, and what is beyond on the way to the sum does not count.
        String let = "fun f(): int = let x = 999*999 + 999 + 999 + 1 in ";
        BENCH.dueCheck(1, let + "(x : int(x)); (0 : int(2*x - 2*x)); 1");
        BENCH.dueFault(MANY, 0, let + "(x : int(^x + 1))");
        BENCH.dueFault(MANY, 0, let + "(x : int(^0 - x - 1))");
        // A CALL makes it of its function's INDEXES.
        BENCH.dueFault(MANY, 1, "fun g(k: int, l: int(2*k)): int = 1", "fun f(): int = 5 + ^g(999*999, 1)");
        BENCH.dueFault(MANY, 1, "fun g{n | n < 3*n}(): int = 1", "fun f(): int = let x = 999*999 in 5 + ^g{x}()");
        BENCH.dueFault(MANY, 1, "fun g(k: int): int(2*k) = k + k", "fun f(): int = 5 + ^g(999*999)");
        BENCH.dueFault(MANY, 1, "fun g(k: int): row(2*k) = new (k + k)", "fun f(): int = let a = ^g(999*999) in 1");
        // The i of PROPS stands for itself: what comes of it may be beyond.
        BENCH.dueCheck(1, "fun g(k: int{i | 999*i >= 999*i & i + i > i}): int = 1", "fun f(): int = g(999*999)");
        BENCH.due("goals", BENCH.c.count(2), 2);
    }

    private static String products(int many) {
        return "fun f(x: int): int = " + "x*x;".repeat(many - 1);
    }

    private static void manyVariables() {
        BENCH.dueCheck(1, products(23) + "x*x");
        BENCH.dueFault(MANY, 0, products(24) + "^x*x");
        BENCH.dueFault(MANY, 0, products(24) + "1 + ^x*x");
        BENCH.dueFault(MANY, 0, products(24) + "1 + ^x/2");
        BENCH.dueFault(MANY, 0, products(24) + "1 + ^(x : int)");
        BENCH.dueFault(MANY, 0, products(24) + "1 + ^f(x)");
        BENCH.dueFault(MANY, 0, products(24) + "(^if x < 1 then 1 else 2 end) + 3");
        BENCH.dueFault(MANY, 0, products(24) + "let a = new 1 in 2 + ^a[0]");
        BENCH.dueFault(MANY, 0, products(24) + "3 * (^999*999 + x + 999*999)");
        BENCH.dueFault(MANY, 0, products(24) + "3 + ^999*999*999");
        BENCH.dueCheck(1, products(24) + "if x < 1 then 1 else 2 end");
        BENCH.dueCheck(1, products(23) + "if x < 1 then x*x else x*x; 1 end");
        BENCH.dueFault(MANY, 0, products(23) + "if x < 1 then x*x else x*x; ^x*x end");
        BENCH.dueFault(NAME, 0, products(24) + "x*^y");
        // The last VARIABLE is another than the i of a TYPE.
        String g = "fun g{n}(k: int{i | i = n}): int(0) = 0";
        BENCH.dueCheck(1, products(23) + "let y = x*x in g{y}(y)", g);
        BENCH.dueCheck(0, products(23) + "let y = x*x in g{y}(y + 1)", g);
        BENCH.dueCheck(0, products(23) + "let y = x*x in g{y + 1}(y)", g);
    }

    private static void manyFacts() {
        BENCH.dueCheck(1, "fun f(): int = " + "new 1;".repeat(48) + "0");
        BENCH.dueFault(MANY, 0, "fun f(): int = " + "new 1;".repeat(48) + "^new 1;0");
        BENCH.dueFault(MANY, 0, "fun f(x: int): int = " + "new 1;".repeat(47) + "^x/2");
        BENCH.dueFault(MANY, 0, "fun f(x: int): int = " + "new 1;".repeat(48) + "^if x < 1 then 1 else 2 end");
        BENCH.dueFault(MANY, 0, "fun f(x: int): int = " + "new 1;".repeat(47) + "^if x = 1 then 1 else 2 end");
        BENCH.dueCheck(1, "fun f(x: int): int = " + "new 1;".repeat(46) + "if x = 1 then 1 else new 2; new 3; 2 end");
        BENCH.dueFault(MANY, 0, "fun f(x: int): int = " + "new 1;".repeat(47) + "1 + ^(1 : int{i | i = 1})");
        BENCH.dueFault(MANY, 0, "fun f(x: int): int = " + "new 1;".repeat(48) + "let a = (^new 1 : row(1)) in 1");
        BENCH.dueFault(MANY, 0, "fun f(a: row(1)): int = " + "new 1;".repeat(47) + "let b = ^(a : row(1)) in 1");
        BENCH.dueFault(MANY, 1, "fun g(): row(2) = new 2", "fun f(): int = " + "new 1;".repeat(48) + "^g(); 1");
        // Four PROPS and five PARAMETERS of four are 48 FACTS.
        String p = "int{i|i=1&i=1&i=1&i=1}";
        BENCH.dueCheck(1, "fun f{n|n=1&n=1&n=1&n=1}(a:" + p + ",b:" + p + ",c:" + p + ",d:" + p + ",e:" + p + "): int(1) = e");
        BENCH.due("facts", BENCH.c.goal(0, 4), 48);
        BENCH.due("variables", BENCH.c.goal(0, 5), 6);
        BENCH.due("proved", BENCH.c.goal(0, 3), 1);
    }

    private static void manyGoals() {
        String fifty = "(a: row(1)): int = " + "a[0]:=0;".repeat(50) + "0";
        BENCH.dueCheck(1, "fun f" + fifty, "fun g" + fifty);
        BENCH.due("goals", BENCH.c.count(1), 200);
        BENCH.due("free", BENCH.c.count(4), 100);
        BENCH.dueFault(MANY, 2, "fun f" + fifty, "fun g" + fifty, "fun h(a: row(1)): int = 5 + ^a[0]");
        BENCH.dueFault(MANY, 2, "fun f" + fifty, "fun g" + fifty, "fun h(a: row(1)): int(5) = 1; ^5");
        BENCH.dueFault(MANY, 2, "fun f" + fifty, "fun g" + fifty, "fun h(x: int(1)): int = 1; ^h(1)");
        BENCH.dueCheck(1, "fun f" + fifty, "fun g" + fifty, "fun h(x: int): int = 1; h(1)");
        BENCH.due("goals", BENCH.c.count(1), 200);
    }

    private static void manyLocals() {
        String five = "fun f(a: int, b: int, c: int, d: int, e: int): int = ";
        String lets = "let x = 1 in ".repeat(5);
        BENCH.dueCheck(1, five + lets + "x");
        BENCH.dueFault(MANY, 0, five + lets + "let ^x = 1 in x");
        BENCH.dueFault(MANY, 0, five + lets + "let ^x = 2 in y");
        BENCH.dueFault(NAME, 0, five + lets + "let x = ^y in x");
        BENCH.dueCheck(1, five + "let x = 1 in ".repeat(4) + "(let x = 1 in x) + (let y = 2 in y)");
        BENCH.dueCheck(1, "fun f{n, m, p, q}(): int = " + "let x = 1 in ".repeat(10) + "x");
        BENCH.dueFault(MANY, 0, "fun f{n, m, p, q}(): int = " + "let x = 1 in ".repeat(10) + "let ^x = 1 in x");
    }

    private static void goalsOfAccesses() {
        String f = "fun f{n}(a: row(n), i: int): int = a[i]";
        int at = f.indexOf("a[i]");
        BENCH.dueCheck(1, f);
        BENCH.dueGoals(new int[][] {{0, at, 0, 0, 1, 2}, {0, at, 1, 0, 1, 2}});
        String g = "fun g{n}(a: row(n), i: int{k | 0 <= k}): int = 1 + a[i + 1] * (a[i] := a[0])";
        int first = g.indexOf("a[i + 1]");
        int second = g.indexOf("a[i] :=");
        int third = g.indexOf("a[0]");
        BENCH.dueCheck(1, g);
        BENCH.dueGoals(new int[][] {
            {0, first, 0, 1, 2, 2}, {0, first, 1, 0, 2, 2}, {0, third, 0, 1, 2, 3}, {0, third, 1, 0, 2, 3},
            {0, second, 0, 1, 2, 4}, {0, second, 1, 0, 2, 4}
        });
        String h = "fun h(a: row(3)): int = a[0] := a[1] := a[2]; a[3] := 4; a[0 - 1]";
        BENCH.dueCheck(1, h);
        BENCH.due("accesses", BENCH.c.count(3), 5);
        BENCH.due("free", BENCH.c.count(4), 3);
        BENCH.due("goals", BENCH.c.count(1), 10);
        BENCH.due("proved", BENCH.c.count(2), 8);
        BENCH.due("the innermost comes first", BENCH.c.goal(0, 1), h.indexOf("a[2]"));
        BENCH.due("then that round it", BENCH.c.goal(2, 1), h.indexOf("a[1]"));
    }

    private static void goalsOfCalls() {
        String g = "fun g{n | 0 < n}(a: row(n), i: int{k | 0 <= k & k < n}): int{r | r >= 0} = (0; len a)";
        String f = "fun f(x: int): int = if x > 2 then g{x}(new x, x - 1) else g{x + 1}(new (x + 1), 0); 5 end";
        int look = g.indexOf("len a");
        int one = f.indexOf("g{x}");
        int two = f.indexOf("g{x + 1}");
        BENCH.dueCheck(0, g, f);
        BENCH.dueGoals(new int[][] {
            {0, look, 4, 1, 4, 2},
            {1, one, 2, 1, 2, 1}, {1, one, 3, 1, 2, 1}, {1, one, 3, 1, 2, 1}, {1, one, 3, 1, 2, 1}, {1, one, 3, 1, 2, 1},
            {1, two, 2, 0, 2, 1}, {1, two, 3, 1, 2, 1}, {1, two, 3, 1, 2, 1}, {1, two, 3, 1, 2, 1}, {1, two, 3, 0, 2, 1}
        });
        BENCH.dueThrow("not accepted", Bench.STATE, () -> BENCH.c.code(0, 0, 0));
        BENCH.dueThrow("not accepted", Bench.STATE, () -> BENCH.c.run(1, 0, 1));
        // PARAMETERS are as those STEPS, and it HAS its TYPE.
        BENCH.dueCheck(1, "fun g{n}(x: int, y: int(x + 2*n)): int(y - x) = y - x", "fun f(z: int): int(6) = g{3}(z, z + 6)");
        BENCH.due("all", BENCH.c.count(2), 6);
        BENCH.dueCheck(1, "fun g(x: int{i | i >= 0}): row(x + 1) = new (x + 1)", "fun f(): int = let a = g(3) in a[3]");
        BENCH.due("free", BENCH.c.count(4), 1);
        // Told by = : two GOALS.
        BENCH.dueCheck(0, "fun g{n, m | n = m & m > n}(): int = 1", "fun f(): int = g{2, 3}()");
        BENCH.dueGoals(new int[][] {{1, 15, 2, 1, 0, 0}, {1, 15, 2, 0, 0, 0}, {1, 15, 2, 1, 0, 0}});
    }

    private static void goalsOfTypes() {
        String f = "fun f(x: int{i | 0 <= i}): int{r | 0 <= r & 2*r <= x} = x / 2";
        int at = f.indexOf("x / 2");
        BENCH.dueCheck(1, f);
        BENCH.dueGoals(new int[][] {{0, at, 4, 1, 3, 2}, {0, at, 4, 1, 3, 2}});
        f = "fun f(x: int): int{r | r > 0} = 1; let y = (x : int{i | i = 1}) in if y < x then y + 1 else (2; y) end";
        BENCH.dueCheck(0, f);
        int inner = f.indexOf("x : int{i");
        BENCH.dueGoals(new int[][] {
            {0, inner, 4, 0, 0, 1}, {0, inner, 4, 0, 0, 1},
            {0, f.indexOf("y + 1"), 4, 1, 3, 2}, {0, f.indexOf("y) end"), 4, 1, 3, 2}
        });
        f = "fun f{n}(a: row(n)): row(n + 0) = (let b = a in (b : row(n)))";
        BENCH.dueCheck(1, f);
        int b = f.indexOf("b : row");
        BENCH.dueGoals(new int[][] {{0, b, 4, 1, 1, 1}, {0, b, 4, 1, 1, 1}, {0, b - 1, 4, 1, 2, 1}, {0, b - 1, 4, 1, 2, 1}});
        BENCH.dueCheck(0, "fun f(x: int): int(x) = x + 1");
        BENCH.dueGoals(new int[][] {{0, 24, 4, 1, 0, 1}, {0, 24, 4, 0, 0, 1}});
        BENCH.dueCheck(1, "fun f(x: int): int = (x : int)");
        BENCH.dueGoals(new int[0][]);
    }

    private static void goalsUnderIf() {
        String[] relations = {"<", "<=", "=", ">=", ">"};
        int[] thenFacts = {1, 1, 2, 1, 1};
        int[] elseFacts = {1, 1, 0, 1, 1};
        String[] thenHolds = {"x < 5", "x <= 5", "x = 5", "x >= 5", "x > 5"};
        String[] elseHolds = {"x >= 5", "x > 5", "x = x", "x < 5", "x <= 5"};
        for (int k = 0; k < 5; k++) {
            String f = "fun f(x: int): int = if x " + relations[k] + " 5 then (x : int{i | " + thenHolds[k].replace('x', 'i')
                + "}) else (x : int{i | " + elseHolds[k].replace('x', 'i') + "}) end";
            BENCH.dueCheck(1, f);
            BENCH.due("facts of then", BENCH.c.goal(0, 4), thenFacts[k]);
            BENCH.due("facts of else", BENCH.c.goal(BENCH.c.count(1) - 1, 4), elseFacts[k]);
        }
        BENCH.dueCheck(0, "fun f(x: int): int{r | r > 4} = if x < 5 then 5 else x end; x");
        BENCH.dueCheck(0, "fun f(x: int): int{r | r < 5} = if x = 5 then 1 else x end");
    }

    private static void goalsUnderIfThatIsWorkedOut() {
        String f = "fun f(x: int): int = let y = if x < 0 then x*x; (x : int{i | i < 0}) else (x : int{i | i >= 0}) end in (y : int{i | i = y})";
        BENCH.dueCheck(1, f);
        int then = f.indexOf("x : int{i | i < 0}");
        int other = f.indexOf("x : int{i | i >= 0}");
        int last = f.indexOf("y : ");
        BENCH.dueGoals(new int[][] {{0, then, 4, 1, 1, 2}, {0, other, 4, 1, 1, 1}, {0, last, 4, 1, 0, 2}, {0, last, 4, 1, 0, 2}});
        // VARIABLES and FACTS of an if that is looked at are gone behind it, too.
        f = "fun f(x: int): int(0) = (if x < 0 then new 1; x*x else new 2; x*x end : int); 0";
        BENCH.dueCheck(1, f);
        int end = f.indexOf("0", f.indexOf(" end"));
        BENCH.dueGoals(new int[][] {{0, end, 4, 1, 0, 2}, {0, end, 4, 1, 0, 2}});
    }

    private static void valuesOfIf() {
        BENCH.dueCheck(1, "fun f(x: int): int(3) = let y = if x < 0 then 3 else 1 + 2 end in y");
        BENCH.due("variables", BENCH.c.goal(0, 5), 1);
        BENCH.dueCheck(0, "fun f(x: int): int(3) = let y = if x < 0 then 3 else 4 end in y");
        BENCH.due("a new variable", BENCH.c.goal(0, 5), 2);
        BENCH.due("facts are gone", BENCH.c.goal(0, 4), 0);
        // Both are VARIABLE 1 there, but it is gone behind them.
        BENCH.dueCheck(0, "fun f(x: int): int{r | r >= x} = let y = if x < 0 then (0 : int{i | i = 0}) else (x : int{i | i = x}) end in y");
        BENCH.due("variables", BENCH.c.goal(4, 5), 2);
        BENCH.dueCheck(1, "fun f(x: int): int{k | k >= 0} = let r = if x < 0 then new 1 else new 2 end in len r");
        BENCH.dueGoals(new int[][] {{0, 79, 4, 1, 1, 2}});
        BENCH.dueCheck(1, "fun f{n}(a: row(n), b: row(n)): row(n) = let c = if len a < 1 then a else b end in c");
        BENCH.due("as a", BENCH.c.goal(0, 5), 1);
        BENCH.due("no fact more", BENCH.c.goal(0, 4), 2);
        // No VARIABLE comes of an if that is looked at.
        String f = "fun f(x: int): int{r | r >= x} = if x < 0 then 0 else x end";
        BENCH.dueCheck(1, f);
        BENCH.dueGoals(new int[][] {{0, f.indexOf("0 else"), 4, 1, 1, 1}, {0, f.indexOf("x end"), 4, 1, 1, 1}});
    }

    private static void sumsAndProducts() {
        BENCH.dueCheck(1, "fun f(x: int, y: int): int(3*x - 2*y + 12) = x * 3 - 2 * y + 3 * 4");
        BENCH.due("no variable more", BENCH.c.goal(0, 5), 2);
        BENCH.dueCheck(0, "fun f(x: int): int(0) = x * x - x * x");
        BENCH.due("each product is a new one", BENCH.c.goal(0, 5), 3);
        BENCH.dueCheck(1, "fun f(x: int): int(0) = x * 0 * x");
        BENCH.due("0 is a number", BENCH.c.goal(0, 5), 1);
        BENCH.dueCheck(1, "fun f(x: int): int(0) = (x - x + 2) * x - x - x");
        BENCH.dueCheck(1, "fun f(x: int): int{r | x <= 3*r + 2 & 3*r <= x} = x / 3");
        BENCH.dueCheck(0, "fun f(x: int): int{r | x <= 3*r + 1} = x / 3");
        BENCH.dueCheck(1, "fun f(x: int): int{r | 6*r <= x & x < 6*r + 6} = x / 2 / 3");
        BENCH.dueCheck(1, "fun f(): int(2) = 5 / 2");
        BENCH.dueCheck(1, "fun f(): int(0 - 3) = (0 - 5) / 2");
        BENCH.due("a quotient is a new variable", BENCH.c.goal(0, 5), 1);
        BENCH.dueCheck(1, "fun f{n}(a: row(n)): int(n) = let b = out len a in b");
        BENCH.dueCheck(1, "fun f(a: row(9)): int(7) = a[0] := a[5] := 7");
    }

    private static void expressionsThatAreTooGreat() {
        // 999 * 999 + 999 + 999 + 1 = 1,000,000
        String million = "999*999 + 999 + 999 + 1";
        BENCH.dueCheck(1, "fun f(): int = let x = " + million + " in (x : int(x))");
        BENCH.due("not beyond", BENCH.c.goal(0, 5), 0);
        BENCH.dueCheck(1, "fun f(): int = let x = 0 - (" + million + ") in (x : int(x))");
        BENCH.due("not beyond below", BENCH.c.goal(0, 5), 0);
        BENCH.dueCheck(0, "fun f(): int(0) = let x = " + million + " + 1 in x");
        BENCH.due("beyond, so a new variable", BENCH.c.goal(0, 5), 1);
        BENCH.dueCheck(0, "fun f(): int(0) = let x = 0 - (" + million + ") - 1 in x");
        BENCH.due("beyond below", BENCH.c.goal(0, 5), 1);
        BENCH.dueCheck(0, "fun f(x: int): int(0) = 999*(999*x + 3*x)");
        BENCH.due("beyond before a variable", BENCH.c.goal(0, 5), 2);
        BENCH.dueCheck(0, "fun f(x: int): int(0) = (999*x)*(999 + 3) - (999*x)*(999 + 3)");
        BENCH.due("both are new", BENCH.c.goal(0, 5), 3);
        BENCH.dueCheck(1, "fun f(x: int): int(0) = (999*x)*(999 + 2) - (999*x)*(999 + 2)");
        BENCH.due("neither is new", BENCH.c.goal(0, 5), 1);
    }

    private static void shadows() {
        BENCH.dueCheck(1, "fun f{n}(x: int(n)): int = let n = 5 in (n : int(n)); (5 : int(n))");
        BENCH.dueCheck(1, "fun f(x: int): int = let x = x + 1 in let y = x in let x = 7 in (7 : int(x)); (y - 1 : int(y - 1))");
        BENCH.dueCheck(1, "fun f(x: int): int = (5 : int{x | x = 5}); (x : int(x))");
        BENCH.dueFault(KIND, 0, "fun f(x: int): int = let x = new 1 in (5 : int(^x))");
        BENCH.dueCheck(1, "fun f(a: row(1)): int = let a = 3 in (3 : int(a))");
    }

    /** What is worked out leaves nothing behind, however much of it there is. */
    private static void longFunctions() {
        String[] all = {
            "1+1;", "2*3;", "(1);", "(1:int(1));", "(1;1);", "let x=1 in ", "a[0]:=a[1]:=0;", "len a;", "out 1;", "g{1}(1,1);",
            "(if 1<2 then 1 else 1 end);", "(if 1<2 then 1 else 1 end:int(1));", "(1:int{i|i=1&i<3});", "(let x=1 in x);"
        };
        for (String each : all) {
            int many = each.startsWith("let") ? 9 : Math.min((480 - 40) / each.length(), each.contains(":int{") || each.contains("g{") ? 10 : 300);
            BENCH.dueCheck(1, "fun f(a: row(2)): int = " + each.repeat(many) + "0", "fun g{n}(x: int(n), y: int): int(1) = 1");
        }
    }

    private static void whatIsCounted() {
        BENCH.functions("fun f(a: row(2), i: int): int = a[i] + a[1]", "fun g(a: row(2)): int(1) = a[0] := 1");
        IndexedCompiler c = BENCH.c;
        BENCH.due("functions", c.count(0), 2);
        for (int k = 1; k <= 4; k++) {
            BENCH.due("nothing is checked: count " + k, c.count(k), 0);
        }
        BENCH.due("nothing is checked: count 5", c.count(5), -1);
        BENCH.due("check", c.check(), 1);
        int[] want = {2, 8, 6, 3, 2, -1};
        for (int k = 0; k <= 5; k++) {
            BENCH.due("count " + k, c.count(k), want[k]);
        }
        BENCH.due("check again", c.check(), 1);
        for (int k = 0; k <= 5; k++) {
            BENCH.due("count again " + k, c.count(k), want[k]);
        }
        BENCH.dueDefined("fun h(): int = x");
        BENCH.due("a fault", c.check(), NAME);
        BENCH.due("its place", c.place(), 15);
        BENCH.due("its function", c.count(5), 2);
        BENCH.due("no goals", c.count(1), 0);
        c.clear();
        BENCH.due("no function", c.count(5), -1);
        BENCH.due("the place stays", c.place(), 15);
        BENCH.due("check of none", c.check(), 1);
        BENCH.due("no place", c.place(), -1);
    }

    private static void wrongArguments() {
        BENCH.dueCheck(1, "fun f(a: row(2)): int = a[1]");
        IndexedCompiler c = BENCH.c;
        for (int what : new int[] {-1, 6, Integer.MAX_VALUE, Integer.MIN_VALUE}) {
            BENCH.dueThrow("count " + what, Bench.ARGUMENT, () -> c.count(what));
            BENCH.dueThrow("goal, " + what, Bench.ARGUMENT, () -> c.goal(0, what));
            BENCH.dueThrow("the argument goes first", Bench.ARGUMENT, () -> c.goal(99, what));
        }
        for (int k : new int[] {-1, 2, Integer.MAX_VALUE, Integer.MIN_VALUE}) {
            BENCH.dueThrow("goal " + k, Bench.STATE, () -> c.goal(k, 0));
        }
        BENCH.due("goal 1", c.goal(1, 2), 1);
    }
}
