/** Boundaries of MANY, and of EXPRESSIONS that become a new VARIABLE because a number is beyond 1,000,000. */
public final class ManyBoundaryTest {
    private static final int NAME = IndexedCompiler.NAME;
    private static final int KIND = IndexedCompiler.KIND;
    private static final int MANY = IndexedCompiler.MANY;
    private static final String NINES = "&i=1&i=1&i=1})";
    private static final Bench BENCH = new Bench("ManyBoundaryTest");

    public static void main(String[] args) {
        indexesOfHeaders();
        indexesOfSteps();
        indexesBehindTheirNames();
        onlyTheWholeIndexCounts();
        indexesOfACallsFunction();
        theIStandsForItself();
        sumsAndProductsBeyond();
        whatIsNotLimited();
        variables();
        noVariables();
        variablesOfChoices();
        variablesOfChoicesThatAreRows();
        facts();
        noFacts();
        factsOfChoices();
        factsOfAHeader();
        goalsOfEachSort();
        goalsInAll();
        locals();
        localsInOneAnother();
        BENCH.end();
    }

    /** 999*999 n + 2*999 n + n is 1,000,000 n; the last one is 1,000,001 n. */
    private static void indexesOfHeaders() {
        BENCH.sentence("MANY: a number in the EXPRESSION would be beyond 1,000,000 (at the INDEX's first character)");
        String[][] headers = {
            {"fun f{n}(x: int(999*n), y: int(^", ")): int = 1"}, {"fun f{n}(x: int(999*n), y: row(^", ")): int = 1"},
            {"fun f{n}(x: int(999*n), y: int{i | ^", " < 1}): int = 1"}, {"fun f{n}(x: int(999*n), y: int{i | 1 < ^",
            "}): int = 1"},
            {"fun f{n}(x: int(999*n), y: int{i | 1 < i & i > ^", "}): int = 1"}
        };
        for (String[] both : headers) {
            BENCH.dueCheck(1, (both[0] + "999*x + 2*x + n" + both[1]).replace("^", ""));
            BENCH.dueFault(MANY, 0, both[0] + "999*x + 2*x + 2*n" + both[1]);
            BENCH.dueCheck(1, (both[0] + "0 - 999*x - 2*x - n" + both[1]).replace("^", ""));
            BENCH.dueFault(MANY, 0, both[0] + "0 - 999*x - 2*x - 2*n" + both[1]);
        }
        // A number without a VARIABLE counts as those before one do.
        BENCH.dueCheck(1, "fun f(x: int(999)): int(999*x + 2*x + 1) = 999*x + 2*x + 1");
        BENCH.dueFault(MANY, 0, "fun f(x: int(999)): int(^999*x + 2*x + 2) = 1");
        BENCH.dueCheck(0, "fun f(x: int(999)): int(0 - 999*x - 2*x - 1) = 1");
        BENCH.dueFault(MANY, 0, "fun f(x: int(999)): int(^0 - 999*x - 2*x - 2) = 1");
        BENCH.dueFault(MANY, 1, "fun g(): int = 1", "fun f(x: int(999), y: int(^x + 999*x + 999*x)): int = 1");
    }

    private static void indexesOfSteps() {
        BENCH.sentence("MANY: an INDEX of STEPS beyond 1,000,000");
        String lets = "fun f{n}(x: int): int = let k = 1 + 999 in let m = k*k in let z = m*x in ";
        String[] marked = {"(0 : int(^?)); 1", "(new 1 : row(^?)); 1", "(0 : int{i | ^? < 1}); 1",
            "(0 : int{i | i > 0 & 1 < ^?}); 1", "f{^?}(x)"};
        for (String each : marked) {
            for (String fits : new String[] {"m", "z", "0 - m", "0 - z", "m + z", "z - m", "m + 0*z"}) {
                BENCH.functions(lets + each.replace("^", "").replace("?", fits));
                BENCH.due("no fault: " + each + " with " + fits, BENCH.c.check() >= 0, true);
            }
            for (String beyond : new String[] {"m + 1", "z + x", "0 - m - 1", "0 - z - x", "2*z", "z + m + 1", "m + z + x",
                "x + z"}) {
                BENCH.dueFault(MANY, 0, lets + each.replace("?", beyond));
            }
        }
        BENCH.dueFault(MANY, 0, lets + "f{^m + 1}(p)");
    }

    private static void indexesBehindTheirNames() {
        BENCH.sentence("NAME and KIND of an INDEX come where its NAMES stand, MANY when it is whole; of a PROP the first INDEX goes first");
        String lets = "fun f(a: row(1)): int = let m = 999*999 in ";
        BENCH.dueFault(NAME, 0, lets + "(1 : int(2*m + ^p))");
        BENCH.dueFault(KIND, 0, lets + "(1 : int(2*m + ^a))");
        BENCH.dueFault(MANY, 0, lets + "(1 : int{i | ^2*m < p})");
        BENCH.dueFault(NAME, 0, lets + "(1 : int{i | ^p < 2*m})");
        BENCH.dueFault(MANY, 0, lets + "(p : int(^2*m))");
    }

    private static void onlyTheWholeIndexCounts() {
        BENCH.sentence("a number in the EXPRESSION: in the whole, not on the way");
        String lets = "fun f(x: int): int = let k = 1 + 999 in let m = k*k in let z = m*x in ";
        BENCH.dueCheck(1, lets + "(0 : int(z - z)); (0 : int(2*z + m - 2*z - m)); 1");
        BENCH.dueCheck(1, lets + "(m : int(m + 1 - 1)); (m : int(2*m - m)); (z : int(x + z - x))");
    }

    private static void indexesOfACallsFunction() {
        BENCH.sentence("MANY: if a CALL makes it of its function's INDEXES, at the CALL's NAME");
        String[] functions = {
            "fun g{n | 2*n >= n}(k: int): int = 1", "fun g{n | 0 < 2*n + n - n}(k: int): int = 1",
            "fun g{n}(k: int, l: int(2*k)): int = 1", "fun g{n}(k: int, a: row(2*k)): int = 1",
            "fun g{n}(k: int, l: int{i | 2*k = i}): int = 1", "fun g{n}(k: int, l: int{i | i = 2*k}): int = 1",
            "fun g{n}(k: int): int(2*k) = 2*k", "fun g{n}(k: int): row(2*k) = new (2*k)",
            "fun g{n}(k: int): int{r | r = 2*k} = 2*k"
        };
        for (String g : functions) {
            boolean isRow = g.contains("a: row");
            String more = isRow ? ", new (2*h)" : g.contains("l: int") ? ", 2*h" : "";
            BENCH.dueCheck(1, g, "fun f(): int = let h = 500*(1 + 999) in g{h}(h" + more + "); 1");
            BENCH.dueFault(MANY, 1, g, "fun f(): int = let h = 500*(1 + 999) + 1 in 1; ^g{h}(h" + more + "); 1");
            BENCH.dueFault(MANY, 1, g, "fun f(): int = let h = 0 - 500*(1 + 999) - 1 in 1; ^g{h}(h" + more + "); 1");
            BENCH.dueFault(MANY, 1, g, "fun f(x: int): int = let h = 500*(1 + 999)*x + x in 1; ^g{h}(h" + more + "); 1");
        }
        // The INDEXES of the CALL itself are told where they stand.
        BENCH.dueFault(MANY, 1, functions[0], "fun f(): int = let m = 999*999 in 1 + g{^m + m}(1)");
    }

    private static void theIStandsForItself() {
        BENCH.sentence("in P the i stands for itself, as a VARIABLE would: what comes when its EXPRESSION is put in for it may be beyond");
        String million = "let k = 1 + 999 in let m = k*k in ";
        BENCH.dueCheck(1, "fun g(k: int{i | i + 1 > 0 & 2*i > i & 999*i >= 1}): int = 1", "fun f(): int = " + million + "g(m)");
        BENCH.dueCheck(1, "fun g(k: int{i | i + 1 > i}): int = 1", "fun f(x: int): int = " + million + "g(m*x)");
        BENCH.dueCheck(1, "fun f(): int = " + million + "(m : int{i | i + 1 > 0 & 2*i > 999})");
        BENCH.dueCheck(1, "fun f(): int{i | 2*i > 999} = " + million + "m");
        // It stands before others that bear its NAME.
        BENCH.dueCheck(1, "fun g(k: int, l: int{k | 2*k > 0}): int = 1", "fun f(): int = " + million + "g(m, 5)");
        BENCH.dueFault(MANY, 1, "fun g(k: int, l: int{i | 2*k > i}): int = 1", "fun f(): int = " + million + "^g(m, 5)");
        BENCH.dueFault(MANY, 1, "fun g(k: int, l: int{i | i + k + 1 > 0}): int = 1", "fun f(): int = " + million + "^g(m, 5)");
        BENCH.dueCheck(1, "fun g(k: int, l: int{i | i + k > 0}): int = 1", "fun f(): int = " + million + "g(m, 5)");
    }

    /** How many VARIABLES there are when the last STEP, int(0), is looked at. */
    private static void dueVariables(int want, String steps) {
        BENCH.functions("fun f(x: int): int(0) = let k = 1 + 999 in let m = k*k in let z = m*x in " + steps + "; 0");
        BENCH.due("check of " + steps, BENCH.c.check(), 1);
        BENCH.due("variables behind " + steps, BENCH.c.goal(0, 5), want);
    }

    private static void sumsAndProductsBeyond() {
        BENCH.sentence("(Of these three: a new VARIABLE, too, if a number in it would be beyond 1,000,000.)");
        for (String fits : new String[] {"m + 0", "z + 0", "0 - m", "0 - z", "m - m", "z + m", "m - 1 + 1", "z - x + x", "m * 1",
            "z * (0 - 1)", "1 * z", "k * k", "k * k * x",
            "x * k * k", "(0 - k) * k", "0 * z", "z * 0", "m * x", "x * m"}) {
            dueVariables(1, fits);
        }
        for (String beyond : new String[] {"m + 1", "1 + m", "z + x", "x + z", "0 - m - 1", "0 - z - x", "m - (0 - 1)",
            "z - (0 - x)", "m * 2", "2 * m", "z * 2", "2 * z",
            "z * (0 - 2)", "(0 - 2) * z", "m * m", "z * m", "m * z", "k * (k + 1)", "k * k * (x + x)", "k * x * (k + 1)",
            "m + 1 - 1"}) {
            dueVariables(2, beyond);
        }
        // From the left on, each time of its own.
        dueVariables(3, "m + 1 + m + 1 + m");
        dueVariables(2, "m + 1 + 1");
        dueVariables(1, "1 - 1 + m");
        dueVariables(2, "x * x");
        dueVariables(3, "x * x * x");
        dueVariables(2, "x * x * 2");
        dueVariables(2, "x / 1");
        dueVariables(2, "5 / 5");
    }

    private static void whatIsNotLimited() {
        BENCH.sentence("1,000,000 is the limit of INDEXES and of + - * alone");
        String million = "let k = 1 + 999 in let m = k*k in ";
        // FACTS and GOALS that are made of two such EXPRESSIONS may have greater numbers.
        BENCH.dueCheck(1, "fun f(x: int): int = " + million + "let z = m*x in if z > 0 - z then (x : int{i | i > 0}) else 1 end");
        BENCH.dueCheck(1, "fun f(): int = " + million + "(m : int{i | i >= 0 - 999 & 0 - m <= i})");
        BENCH.dueCheck(1, "fun f(): int = " + million + "let q = m / 999 in (q : int{i | 999*i <= m & m <= 999*i + 998})");
        BENCH.due("a quotient is no number", BENCH.c.goal(0, 5), 1);
        BENCH.dueCheck(1, "fun f(): int = " + million + "let a = new m in a[m - 1] := 0 - m");
        BENCH.due("free", BENCH.c.count(4), 1);
    }

    private static final String HEADER = "fun f(x: int, a: row(1)): int = ";
    private static final String[] HELPERS = {
        null, "fun g(y: int): int{r | r = y} = y", "fun h(y: int): int(y) = y", "fun k(y: int): row(5) = new 5"
    };

    private static String[] withHelpers(String f) {
        String[] all = HELPERS.clone();
        all[0] = f;
        return all;
    }

    /** A function that has so many VARIABLES before those STEPS; x is the first. */
    private static String[] atVariables(int many, String steps) {
        return withHelpers(HEADER + "x*x;".repeat(many - 1) + steps);
    }

    private static void variables() {
        BENCH.sentence("MANY: there would be more than 24 VARIABLES at a time (at the first character of what makes them)");
        String[] makers = {
            "^x*x", "1 + ^x*x", "1 + ^x * 2 * x", "^(x)*x", "^x/2", "1 - ^x/2", "2 * (^1/1)", "^a[0]", "1 + ^a[0]",
            "2 * ^a[0] - 1", "a[0] := ^a[0]", "^(x : int)",
            "1 + ^(x : int)", "^(x : int{i | i = x})", "^f(x, a)", "1 + ^f(x, a)", "^g(x)", "2 * ^g(x)", "^999*999 + 999*999",
            "3 * (^999*999 + 999*999)",
            "^0 - 999*999 - 999*999", "^999*999*2", "5 + ^999*999*2", "(^if x < 1 then 1 else 2 end) + 1",
            "let y = ^if x < 1 then 1 else 2 end in 1",
            "let b = ^if x < 1 then new 1 else new 2 end in 1", "new (^x*x); 1", "if ^x*x < 1 then 1 else 2 end",
            "if 1 < ^x*x then 1 else 2 end",
            "if x < 1 then ^x*x else 1 end", "if x < 1 then 1 else ^x*x end", "h(^x*x)", "h((1; ^x/1))"
        };
        for (String each : makers) {
            BENCH.dueCheck(1, atVariables(23, each.replace("^", "")));
            BENCH.dueFault(MANY, 0, atVariables(24, each));
        }
    }

    private static void noVariables() {
        BENCH.sentence("what makes no VARIABLE may stand behind 24");
        String[] others = {
            "1", "x", "x + x", "2*x", "x*0*x", "x - x", "999*999", "len a", "new 1; 1", "out x", "(x)", "(x; x)", "a[0] := x",
            "(x : int(x))", "let b = (a : row(1)) in 1",
            "h(x)", "k(x); 1", "let y = x in y", "if x < 1 then 1 else 2 end", "let y = if x < 1 then x else x end in y",
            "let b = if x < 1 then a else a end in 1"
        };
        for (String each : others) {
            BENCH.dueCheck(1, atVariables(24, each));
        }
    }

    private static void variablesOfChoices() {
        BENCH.sentence("VARIABLES that came in c, in d, are gone behind it (their numbers come again)");
        BENCH.dueCheck(1, atVariables(23, "if x < 1 then x*x else x*x end"));
        BENCH.dueFault(MANY, 0, atVariables(23, "if x < 1 then x*x; ^x*x else 1 end"));
        BENCH.dueFault(MANY, 0, atVariables(23, "if x < 1 then x*x else x*x; ^x*x end"));
        BENCH.dueCheck(1, atVariables(23, "(if x < 1 then x*x; 1 else x*x; 1 end); x*x"));
        BENCH.dueFault(MANY, 0, atVariables(23, "(if x < 1 then x*x; 1 else x*x; 1 end); x*x; ^x*x"));
        BENCH.dueCheck(1, atVariables(23, "(if x < 1 then x*x else x*x end); 1"));
        BENCH.dueFault(MANY, 0, atVariables(23, "(if x < 1 then x*x else x*x end); ^x*x"));
        BENCH.dueFault(MANY, 0, atVariables(24, "(^if x < 1 then x else 1 end); 1"));
        BENCH.dueCheck(1, atVariables(22,
            "(if x < 1 then (if x < 0 then x*x; 1 else x*x; 1 end) else x*x; x*x; 1 end); x*x; x*x"));
    }

    private static void variablesOfChoicesThatAreRows() {
        BENCH.sentence("if: else it is a new VARIABLE, and for rows this is a FACT");
        BENCH.dueCheck(1, "fun f(x: int): int(0) = let b = if x < 1 then new 1 else new 2 end in 0");
        BENCH.due("variables", BENCH.c.goal(0, 5), 2);
        BENCH.due("facts", BENCH.c.goal(0, 4), 1);
        BENCH.dueCheck(1, "fun f(x: int): int(0) = let b = if x < 1 then 1 else 2 end in 0");
        BENCH.due("variables", BENCH.c.goal(0, 5), 2);
        BENCH.due("facts", BENCH.c.goal(0, 4), 0);
        BENCH.dueCheck(1, "fun f(x: int): int(0) = let b = if x < 1 then new 1 else new 1 end in 0");
        BENCH.due("variables", BENCH.c.goal(0, 5), 1);
        BENCH.due("facts", BENCH.c.goal(0, 4), 0);
        BENCH.dueCheck(1, "fun f(x: int): int(0) = let b = if x < 1 then x + 1 - 1 else 1 * x end in 0");
        BENCH.due("the same EXPRESSION", BENCH.c.goal(0, 5), 1);
        BENCH.dueCheck(1, "fun f(x: int): int(0) = let b = if x < 1 then x else x + 1 end in 0");
        BENCH.due("another number alone", BENCH.c.goal(0, 5), 2);
        BENCH.dueCheck(1, "fun f(x: int): int(0) = let b = if x < 1 then x*x else x*x end in 0");
        BENCH.due("the same with a VARIABLE that is gone", BENCH.c.goal(0, 5), 2);
        BENCH.dueCheck(1, "fun f(x: int): int(0) = let y = x*x in let b = if x < 1 then y else y end in 0");
        BENCH.due("the last VARIABLE that is not gone", BENCH.c.goal(0, 5), 2);
    }

    /** A function that has so many FACTS before those STEPS; that of a is the first. */
    private static String[] atFacts(int many, String steps) {
        return withHelpers(HEADER + "new 1;".repeat(many - 1) + steps);
    }

    private static void dueFacts(int makes, String marked) {
        BENCH.dueCheck(1, atFacts(48 - makes, marked.replace("^", "")));
        BENCH.dueFault(MANY, 0, atFacts(49 - makes, marked));
    }

    private static void facts() {
        BENCH.sentence("MANY: there would be more than 48 FACTS at a time (at the first character of what makes them)");
        String[] one = {
            "^new 1; 1", "let b = ^new 1 in 1", "len a; ^new (1 + 1); 1", "1 + ^(1 : int{i | i > 0})", "^(x : int{i | i >= x})",
            "let b = ^(a : row(1)) in 1", "^(a : row(1)); 1", "^k(x); 1",
            "let b = ^k(x) in 1", "^if x < 1 then 1 else 2 end", "1 + (^if x < 1 then 1 else 1 end)",
            "^if x >= 1 then 1 else 2 end", "^if x > 1 then 1 else 2 end", "^if x <= 1 then 1 else 2 end",
            "let b = ^if x < 1 then a else a end in 1"
        };
        for (String each : one) {
            dueFacts(1, each);
        }
        String[] two = {"^x/2", "1 + ^x/2", "2 - ^5/999", "^if x = 1 then 1 else 2 end", "(^if x = 1 then 1 else 1 end) + 1",
            "1 + ^(1 : int{i | i = 1})", "^g(x)", "2 * ^g(x)",
            "if x < 1 then ^new 1; 1 else 1 end", "if x < 1 then 1 else ^new 1; 1 end"};
        for (String each : two) {
            dueFacts(2, each);
        }
        dueFacts(4, "^(1 : int{i|i>0&i>0&i>0&i>0})");
        dueFacts(8, "^(1 : int{i|i=1" + NINES);
        dueFacts(3, "x/2; ^new 1; 1");
        dueFacts(4, "x/2; ^x/2");
    }

    private static void noFacts() {
        BENCH.sentence("what makes no FACT may stand behind 48");
        String[] others = {"1", "x*x", "a[0]", "a[0] := 1", "len a", "(x : int)", "(x : int(x))", "h(x)", "f(x, a)",
            "let y = x in y", "out x", "x + 999*999", "(x; a; x)"};
        for (String each : others) {
            BENCH.dueCheck(1, atFacts(48, each));
        }
    }

    private static void factsOfChoices() {
        BENCH.sentence("FACTS that came in c, in d, are gone behind it; of = the contrary has none");
        BENCH.dueCheck(1, atFacts(46, "if x = 1 then 1 else new 1; new 1; 2 end"));
        BENCH.dueFault(MANY, 0, atFacts(46, "if x = 1 then 1 else new 1; new 1; ^new 1; 2 end"));
        BENCH.dueFault(MANY, 0, atFacts(46, "if x = 1 then ^new 1; 1 else 2 end"));
        BENCH.dueCheck(1, atFacts(46, "if x < 1 then new 1; 1 else new 1; 2 end"));
        BENCH.dueFault(MANY, 0, atFacts(46, "if x < 1 then 1 else new 1; ^new 1; 2 end"));
        BENCH.dueCheck(1, atFacts(46, "(if x < 1 then new 1; 1 else new 1; 2 end); new 1; new 1; 1"));
        BENCH.dueFault(MANY, 0, atFacts(46, "(if x < 1 then new 1; 1 else new 1; 2 end); new 1; new 1; ^new 1; 1"));
        BENCH.dueCheck(1, atFacts(46, "if x < 1 then if x < 1 then 1 else 1 end else if x < 1 then 1 else 1 end end"));
        BENCH.dueFault(MANY, 0, atFacts(47, "if x < 1 then ^if x < 1 then 1 else 1 end else 1 end"));
        // The FACT of rows comes when those of the if are gone.
        BENCH.dueCheck(1, atFacts(46, "let b = if x < 1 then new 1 else new 2 end in new 1; 1"));
        BENCH.dueFault(MANY, 0, atFacts(46, "let b = if x < 1 then new 1 else new 2 end in new 1; ^new 1; 1"));
    }

    private static void factsOfAHeader() {
        BENCH.sentence("four PROPS and five PARAMETERS of four each are 48 FACTS, which is not more than 48");
        String p = ":int{i|i=1&i=1&i=1&i=1}";
        String header = "fun f{n|n=1&n=1&n=1&n=1}(a" + p + ",b" + p + ",c" + p + ",d" + p + ",e" + p + "): int(1) = ";
        BENCH.dueCheck(1, header + "e");
        BENCH.due("facts", BENCH.c.goal(0, 4), 48);
        BENCH.due("variables", BENCH.c.goal(0, 5), 6);
        BENCH.dueFault(MANY, 0, header + "^new 1; e");
        BENCH.dueFault(MANY, 0, header + "^if e < 1 then e else e end");
        BENCH.dueFault(MANY, 0, header + "^e/1");
    }

    /** A function with so many GOALS, all of them PROVED. */
    private static String goals(char name, int many) {
        return "fun " + name + "(a: row(1)): int = " + (many % 2 == 1 ? "(1:int{i|i>0});" : "") + "a[0]:=0;".repeat(many / 2)
            + "0";
    }

    private static void dueGoals(int makes, String marked) {
        String helper = "fun h{n | n > 0 & n = n}(y: int(n), z: int{i | i > 0}): int = 1";
        BENCH.dueCheck(1, goals('f', 100), goals('g', 100 - makes), helper, marked.replace("^", ""));
        BENCH.due("goals", BENCH.c.count(1), 200);
        BENCH.due("the last goal is in the last function", BENCH.c.goal(199, 0), 3);
        BENCH.dueThrow("no goal 200", Bench.STATE, () -> BENCH.c.goal(200, 0));
        BENCH.dueFault(MANY, 3, goals('f', 100), goals('g', 101 - makes), helper, marked);
        if (makes > 1) {
            BENCH.dueFault(MANY, 3, goals('f', 100), goals('g', 100), helper, marked);
        }
    }

    private static void goalsOfEachSort() {
        BENCH.sentence("MANY: more than 200 GOALS in all (at the GOAL's place)");
        dueGoals(2, "fun k(a: row(1)): int = 5 + ^a[0]");
        dueGoals(2, "fun k(a: row(1)): int = 5; ^a[0] := 1");
        dueGoals(1, "fun k(): int{r | r > 0} = 2; ^1");
        dueGoals(2, "fun k(): int(1) = let y = 2 in ^1");
        dueGoals(2, "fun k(): int = (3; ^1 : int(1))");
        dueGoals(4, "fun k(): int = (^1 : int{i | i = 1 & i > 0 & i < 2})");
        dueGoals(6, "fun k(): int = 7 + ^h{1}(1, 1)");
        dueGoals(1, "fun k(): int = if 1 < 2 then 1 else (^1 : int{i | i > 0}) end");
    }

    private static void goalsInAll() {
        BENCH.sentence("200 GOALS in all functions together");
        BENCH.dueCheck(1, goals('a', 25), goals('b', 25), goals('c', 25), goals('d', 25), goals('e', 25), goals('f', 25),
            goals('g', 25), goals('h', 25));
        BENCH.due("goals", BENCH.c.count(1), 200);
        BENCH.due("check again", BENCH.c.check(), 1);
        BENCH.due("goals again", BENCH.c.count(1), 200);
        String[] eight = {goals('a', 25), goals('b', 25), goals('c', 25), goals('d', 25), goals('e', 25), goals('f', 25),
            goals('g', 25), goals('h', 26).replace("a[0]:=0;0", "^a[0]:=0;0")};
        BENCH.dueFault(MANY, 7, eight);
    }

    private static void locals() {
        BENCH.sentence("MANY: more than 10 PARAMETERS and let in one another (at the let's NAME, behind working out what it is)");
        String[] headers = {"fun f(): int = ", "fun f(a: int): int = ", "fun f{n, m}(a: int, b: row(n)): int = ",
            "fun f(a: int, b: int, c: int): int = ",
            "fun f{n, m, p, q}(a: int, b: int, c: int, d: int): int = ", "fun f(a: int, b: int, c: int, d: int, e: int): int = "};
        for (int parameters = 0; parameters <= 5; parameters++) {
            String lets = headers[parameters] + "let x = 1 in ".repeat(10 - parameters);
            BENCH.dueCheck(1, lets + "x");
            BENCH.dueFault(MANY, 0, lets + "let ^y = 1 in x");
            BENCH.dueFault(NAME, 0, lets + "let y = ^z in x");
            BENCH.dueFault(MANY, 0, lets + "let ^y = 1 in z");
            BENCH.dueFault(MANY, 0, lets + "1; let   ^y = 1 in z");
        }
    }

    private static void localsInOneAnother() {
        BENCH.sentence("those of lets that are over do not count");
        String lets = "fun f(a: int, b: int, c: int): int = " + "let x = 1 in ".repeat(6);
        BENCH.dueCheck(1, lets + "(let y = 1 in y) + (let y = 2 in y) * (let z = 3 in z)");
        BENCH.dueCheck(1, lets + "let y = (let z = 1 in z) in y");
        BENCH.dueFault(MANY, 0, lets + "let y = 1 in (let ^z = 1 in z)");
        BENCH.dueFault(MANY, 0, lets + "let y = (let z = 1 in 1; let ^w = 2 in w) in y");
        BENCH.dueCheck(1, "fun f(): int = " + "(let x = 1 in x);".repeat(25) + "1");
        BENCH.dueCheck(1, "fun f(): int = if 1 < 2 then " + "let x=1 in ".repeat(10) + "1 else " + "let y=1 in ".repeat(10)
            + "2 end");
    }
}
