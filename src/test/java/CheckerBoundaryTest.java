/** Boundaries of THE CHECKER: promises 6, 8 and 9, and what 'Terms' says of NAME, KIND, COUNT, GOALS and their places. */
public final class CheckerBoundaryTest {
    private static final int NONE = IndexedCompiler.NONE;
    private static final int NAME = IndexedCompiler.NAME;
    private static final int KIND = IndexedCompiler.KIND;
    private static final int COUNT = IndexedCompiler.COUNT;
    private static final int MANY = IndexedCompiler.MANY;
    private static final Bench BENCH = new Bench("CheckerBoundaryTest");

    public static void main(String[] args) {
        noFunctions();
        headersOfAllFirst();
        headersInTheirOrder();
        stepsInTheirOrder();
        variablesAndFactsOfEachFunction();
        namesToldBefore();
        namesOfLets();
        indexNamesAreNoNumbers();
        thatToldLastCounts();
        kindInIndexes();
        numberMustBe();
        rowMustBe();
        kindWhereATypeSaysSo();
        kindOfChoices();
        kindBehindItself();
        noSuchFunction();
        countOfIndexes();
        countOfSteps();
        callsInTheirOrder();
        typeBeforeSteps();
        lookedAtGoesInto();
        lookedAtComesBehind();
        placesOfGoals();
        goalsOfAChangeComeBehind();
        acceptedBySorts();
        freeByBothGoals();
        noGoalsBehindAFault();
        countWhat();
        countOfNothing();
        goalWhat();
        goalNumbers();
        theLastCheckCounts();
        BENCH.end();
    }

    private static void noFunctions() {
        IndexedCompiler c = BENCH.sentence("check: 1 if they are ACCEPTED (also if there are none)");
        BENCH.due("check of none", c.check(), 1);
        BENCH.due("goals", c.count(1), 0);
        BENCH.due("no fault", c.count(5), NONE);
        BENCH.dueThrow("no function 0", Bench.STATE, () -> c.code(0, 0, 0));
        BENCH.dueThrow("no goal 0", Bench.STATE, () -> c.goal(0, 0));
        BENCH.dueCheck(1, "fun f(): int = 1");
        BENCH.dueCheck(0, "fun f(): int(0) = 1");
    }

    private static void headersOfAllFirst() {
        BENCH.sentence("goes through functions in their order twice: first through INDEX NAMES, PROPS, PARAMETERS and TYPE of each");
        BENCH.dueFault(NAME, 1, "fun f(): int = x", "fun g(): int(^y) = 1");
        BENCH.dueFault(KIND, 2, "fun f(): int = x", "fun g(): int = y", "fun h(a: row(1)): int(^a) = z");
        BENCH.dueFault(NAME, 0, "fun f(): int(^x) = x", "fun g(): int(y) = 1");
        BENCH.dueFault(NAME, 1, "fun f(): int(0) = 1", "fun g(): int = ^y", "fun h(): int = z");
        BENCH.dueFault(NAME, 0, "fun f(): int = ^y", "fun g(): int = y");
        BENCH.dueFault(NAME, 7, "fun a(): int = x", "fun b(): int = x", "fun c(): int = x", "fun d(): int = x",
            "fun e(): int = x",
            "fun g(): int = x", "fun h(): int = x", "fun k(z: int(^y)): int = x");
    }

    private static void headersInTheirOrder() {
        BENCH.sentence("INDEX NAMES, PROPS, PARAMETERS and TYPE, in this order");
        BENCH.dueFault(NAME, 0, "fun f{n | ^a < b & c < d}(x: int(e)): int(g) = h");
        BENCH.dueFault(NAME, 0, "fun f{n | n < ^b & c < d}(x: int(e)): int(g) = h");
        BENCH.dueFault(NAME, 0, "fun f{n | n < n & ^c < d}(x: int(e)): int(g) = h");
        BENCH.dueFault(NAME, 0, "fun f{n | n < n & n < ^d}(x: int(e)): int(g) = h");
        BENCH.dueFault(NAME, 0, "fun f{n | n < n}(x: int(^e), y: int(p)): int(g) = h");
        BENCH.dueFault(NAME, 0, "fun f{n | n < n}(x: int, y: int{i | i < n + ^p}): int(g) = h");
        BENCH.dueFault(NAME, 0, "fun f{n | n < n}(x: int, y: int): int(^g) = h");
        BENCH.dueFault(NAME, 0, "fun f{n | n < n}(x: int, y: int): int = ^h");
    }

    private static void stepsInTheirOrder() {
        BENCH.sentence("STEPS and what they are made of are worked out in their order");
        String[] marked = {
            "^p; q", "1; ^q", "^p + q", "1 + ^q", "1 + 2 * ^q", "^p * q", "x[^p]", "^p[q]", "x[^p] := q", "x[0] := ^q",
            "^p[q] := r", "let y = ^p in q",
            "let y = 1 in ^q", "if ^p < q then r else s end", "if 1 < ^q then r else s end", "if 1 < 2 then ^r else s end",
            "if 1 < 2 then 1 else ^s end",
            "f(^p, q)", "f(x, ^q)", "out ^p + q", "new ^p; q", "(^p; q)", "1; 2; (1; ^q)"
        };
        for (String each : marked) {
            BENCH.dueFault(NAME, 0, "fun f(x: row(1), z: int): int = " + each);
        }
    }

    private static void variablesAndFactsOfEachFunction() {
        BENCH.sentence("VARIABLES are numbered from 0 on in each function");
        BENCH.dueCheck(1, "fun f{n, m | n < m}(x: int, a: row(n)): int = a[x]", "fun g(): int = let b = new 1 in b[0]",
            "fun h(x: int): int = let b = new x in b[x]");
        int f = "fun f{n, m | n < m}(x: int, a: row(n)): int = ".length();
        int g = "fun g(): int = let b = new 1 in ".length();
        int h = "fun h(x: int): int = let b = new x in ".length();
        BENCH.dueGoals(new int[][] {
            {0, f, 0, 0, 2, 3}, {0, f, 1, 0, 2, 3}, {1, g, 0, 1, 1, 0}, {1, g, 1, 1, 1, 0}, {2, h, 0, 1, 1, 1}, {2, h, 1, 0, 1, 1}
        });
    }

    private static void namesToldBefore() {
        BENCH.sentence("An INDEX is of INDEX NAMES, of NAMES of numbers, as far as they are told before it, and i in P. NAME: there is none such (at it)");
        BENCH.dueCheck(1, "fun f{n, m | n < m}(x: int(n), y: int(x + m), z: int{i | i < x + y + n}, a: row(z)): int{r | r < z + y + x + m} = f{n, m}(x, y, z, a)");
        String[] marked = {
            "fun f{n, m | n < ^p}(): int = 1", "fun f{n | n < ^x}(x: int): int = 1", "fun f(x: int(^x)): int = 1",
            "fun f(x: int(^y), y: int): int = 1",
            "fun f(x: int{i | i < ^x}): int = 1", "fun f(x: int{i | i < 1}, y: int(^i)): int = 1",
            "fun f(x: int{i | i < 1}): int(^i) = 1",
            "fun f(a: row(^a)): int = 1", "fun f(): int(^f) = 1", "fun f(): row(1 + 2*^n) = new 1",
            "fun f(): int = (1 : int(^n))",
            "fun f(): int = (1 : row(^n))", "fun f(): int = (1 : int{i | i < ^n})",
            "fun f(): int = (1 : int{i | i < 1}) + (1 : int(^i))",
            "fun f{n}(): int = f{^m}()", "fun f{n, m}(): int = f{1, 2 - ^p}()"
        };
        for (String each : marked) {
            BENCH.dueFault(NAME, 0, each);
        }
        BENCH.dueFault(NAME, 1, "fun g{p}(q: int): int = 1", "fun f(): int = g{^p}(1)");
        BENCH.dueFault(NAME, 1, "fun g{p}(q: int): int = 1", "fun f(): int = g{^q}(1)");
    }

    private static void namesOfLets() {
        BENCH.sentence("let x = a in b: as b, x being as a in it");
        BENCH.dueCheck(1, "fun f{n}(): int = let x = 1 in (x : int(x)); f{x + n}(); x");
        String[] marked = {
            "let x = ^x in 1", "let x = (1 : int(^x)) in 1", "(let x = 1 in x); ^x", "(let x = 1 in x) + ^x",
            "(1 : int(^x)); let x = 1 in x",
            "let x = (let y = 1 in y) in ^y", "if 1 < 2 then let x = 1 in x else ^x end", "(let x = 1 in 2); f{^x}()",
            "let y = let x = 1 in x in ^x"
        };
        for (String each : marked) {
            BENCH.dueFault(NAME, 0, "fun f{n}(): int = " + each);
        }
    }

    private static void indexNamesAreNoNumbers() {
        BENCH.sentence("NAME of a PARAMETER or let: its own (NAME: there is none such, or it is an INDEX NAME)");
        BENCH.dueCheck(1, "fun f{n}(x: int(n)): int = x");
        BENCH.dueCheck(1, "fun f{n}(x: int(n)): int = let n = 1 in n");
        String[] marked = {"^n", "^m", "^m[0]", "len ^m", "^n[0]", "len ^n", "^n[0] := 1", "^m[0] := 1", "1 + ^n",
            "(let n = 1 in n) + ^n", "f{n}(^n)"};
        for (String each : marked) {
            BENCH.dueFault(NAME, 0, "fun f{n}(x: int): int = " + each);
        }
        for (int k = 0; k < 4; k++) {
            BENCH.dueFault(NAME, 0, "fun f{a, b, c, d}(e: int): int = ^" + "abcd".charAt(k));
        }
        BENCH.dueCheck(1, "fun f{a, b, c, d}(e: int): int = e");
    }

    private static void thatToldLastCounts() {
        BENCH.sentence("of several with one NAME that told last counts");
        BENCH.dueCheck(1, "fun f{n}(x: int(n)): int = let n = 5 in (5 : int(n))");
        BENCH.dueCheck(0, "fun f{n}(x: int(n)): int = let n = 5 in (x : int(n))");
        BENCH.dueCheck(1, "fun f{n}(x: int(n)): int = (let n = 5 in n); (x : int(n))");
        BENCH.dueCheck(1, "fun f(x: int): int = let x = 1 in let x = 2 in (2 : int(x))");
        BENCH.dueCheck(0, "fun f(x: int): int = let x = 1 in let x = 2 in (1 : int(x))");
        BENCH.dueCheck(1, "fun f(x: int): int = let x = 1 in (let x = 2 in 2); (1 : int(x))");
        BENCH.dueCheck(1, "fun f(x: int(7)): int = (3 : int{x | x = 3})");
        BENCH.dueCheck(0, "fun f(x: int(7)): int = (7 : int{x | x = 3})");
        BENCH.dueCheck(1, "fun f{n}(a: row(n)): int = let a = 5 in (5 : int(a))");
        BENCH.dueCheck(1, "fun f{n}(a: row(n)): int = (5 : int{a | a = 5})");
        BENCH.dueFault(KIND, 0, "fun f(x: int): int = let x = new 1 in (5 : int(^x))");
        // What a CALL's function is told of is its own, whatever bears the NAME here.
        BENCH.dueCheck(1, "fun g{n}(x: int(n)): int(x + 1) = x + 1", "fun f(n: int, x: int(9)): int(6) = let x = 8 in g{5}(5)");
    }

    private static void kindInIndexes() {
        BENCH.sentence("An INDEX: KIND: it is a row's (at it)");
        String[] marked = {
            "fun f(a: row(1), x: int(^a)): int = 1", "fun f(a: row(1), x: row(^a)): int = 1",
            "fun f(a: row(1), x: int{i | ^a < i}): int = 1",
            "fun f(a: row(1), x: int{i | i < 2 & i < 3 - 2*^a}): int = 1", "fun f(a: row(1)): int(1 + ^a) = 1",
            "fun f(a: row(1)): int = (1 : int(^a))",
            "fun f(a: row(1)): int = (a : row(^a))", "fun f(): int = let b = new 1 in (1 : int(^b))"
        };
        for (String each : marked) {
            BENCH.dueFault(KIND, 0, each);
        }
        BENCH.dueFault(KIND, 0, "fun f{n}(a: row(1)): int = f{^a}(a)");
        BENCH.dueFault(KIND, 0, "fun f{n}(a: row(1)): int = f{1 + 2*^a}(b)");
        BENCH.dueFault(NAME, 0, "fun f{n}(a: row(1)): int = f{^b + a}(b)");
        BENCH.dueCheck(1, "fun f{n}(a: row(n)): int = let b = len a in (b : int(b))");
    }

    /** Each with a number there, and with a row. */
    private static void numberMustBe() {
        BENCH.sentence("KIND: a number must be in [ ], behind :=, new, out, on both sides of + - * and RELATIONS, before /");
        String[] marked = {
            "a[^?]", "a[^?] := 1", "a[0] := ^?", "new ^?; 1", "out ^?", "^? + 1", "1 + ^?", "1 + 2 + ^?", "^? - 1", "1 - ^?",
            "^? * 2", "2 * ^?",
            "2 * 3 * ^?", "^? / 2", "1 + ^? / 2", "if ^? < 1 then 1 else 2 end", "if 1 < ^? then 1 else 2 end",
            "if ^? = 1 then 1 else 2 end",
            "if 1 >= ^? then 1 else 2 end", "1 * ^(?)", "1 + ^(1; ?)", "out ^(?)", "1 + ^(let y = 1 in ?)",
            "1 + ^(if 1 < 2 then ? else ? end)"
        };
        for (String each : marked) {
            BENCH.dueCheck(1, "fun f(x: int, a: row(1)): int = " + each.replace("^", "").replace("?", "x"));
            BENCH.dueFault(KIND, 0, "fun f(x: int, a: row(1)): int = " + each.replace("?", "a"));
        }
    }

    private static void rowMustBe() {
        BENCH.sentence("KIND: a row must be before [, behind len");
        String[] marked = {"^?[0]", "1 + ^?[0]", "^?[0] := 1", "len ^?", "1 + len ^?"};
        for (String each : marked) {
            BENCH.dueCheck(1, "fun f(x: int, a: row(1)): int = " + each.replace("^", "").replace("?", "a"));
            BENCH.dueFault(KIND, 0, "fun f(x: int, a: row(1)): int = " + each.replace("?", "x"));
        }
        BENCH.dueFault(KIND, 0, "fun f(x: int, a: row(1)): int = let a = 1 in ^a[0]");
        BENCH.dueFault(KIND, 0, "fun f(x: int, a: row(1)): int = let y = a[0] in ^y[0]");
        BENCH.dueCheck(1, "fun f(x: int, a: row(1)): int = let x = a in x[0]");
    }

    private static void kindWhereATypeSaysSo() {
        BENCH.sentence("KIND: a row where a TYPE says so, a number where it does");
        String[] numbers = {"int", "int(1)", "int{i | i > 0}"};
        for (String type : numbers) {
            BENCH.dueCheck(1, "fun f(a: row(1)): " + type + " = 1");
            BENCH.dueFault(KIND, 0, "fun f(a: row(1)): " + type + " = ^a");
            BENCH.dueCheck(1, "fun f(a: row(1)): int = (1 : " + type + ")");
            BENCH.dueFault(KIND, 0, "fun f(a: row(1)): int = (^a : " + type + ")");
            BENCH.dueCheck(1, "fun g(y: " + type + "): int = 1", "fun f(a: row(1)): int = g(1)");
            BENCH.dueFault(KIND, 1, "fun g(y: " + type + "): int = 1", "fun f(a: row(1)): int = g(^a)");
            BENCH.dueFault(KIND, 1, "fun g(): " + type + " = 1", "fun f(): row(1) = ^g()");
            BENCH.dueFault(KIND, 0, "fun f(): row(1) = ^(1 : " + type + ")");
        }
        BENCH.dueCheck(1, "fun f(a: row(1)): row(1) = a");
        BENCH.dueFault(KIND, 0, "fun f(a: row(1)): row(1) = ^1");
        BENCH.dueFault(KIND, 0, "fun f(a: row(1)): int = (^1 : row(1)); 1");
        BENCH.dueFault(KIND, 1, "fun g(y: row(1)): int = 1", "fun f(a: row(1)): int = g(^1)");
        BENCH.dueFault(KIND, 1, "fun g(): row(1) = new 1", "fun f(): int = 1; ^g()");
        BENCH.dueFault(KIND, 0, "fun f(a: row(1)): int = ^(a : row(1))");
        BENCH.dueFault(KIND, 0, "fun f(a: row(1)): int = ^new 1");
        BENCH.dueFault(KIND, 0, "fun f(a: row(1)): row(1) = ^len a");
        BENCH.dueFault(KIND, 0, "fun f(a: row(1)): row(1) = ^a[0] := 1");
        // KIND goes before the GOALS of the TYPE.
        BENCH.dueFault(KIND, 0, "fun f(a: row(1)): int(7) = ^a");
    }

    private static void kindOfChoices() {
        BENCH.sentence("if: KIND: one is a row, the other one is not (at d's first character)");
        BENCH.dueCheck(1, "fun f(a: row(1)): int = (if 1 < 2 then a else a end); (if 1 < 2 then 1 else 2 end)");
        BENCH.dueFault(KIND, 0, "fun f(a: row(1)): int = (if 1 < 2 then a else ^1 end); 1");
        BENCH.dueFault(KIND, 0, "fun f(a: row(1)): int = (if 1 < 2 then 1 else ^a end); 1");
        BENCH.dueFault(KIND, 0, "fun f(a: row(1)): int = let y = if 1 < 2 then 1 else ^1; a end in 1");
        BENCH.dueFault(KIND, 0, "fun f(a: row(1)): int = let y = if 1 < 2 then 1; a else ^let z = a in 1 end in 1");
        BENCH.dueFault(NAME, 0, "fun f(a: row(1)): int = let y = if 1 < 2 then a else ^p; 1 end in 1");
        // Where it is looked at, each of both has a place of its own.
        BENCH.dueFault(KIND, 0, "fun f(a: row(1)): int = if 1 < 2 then ^a else 1 end");
        BENCH.dueFault(KIND, 0, "fun f(a: row(1)): int = if 1 < 2 then 1 else 1; ^a end");
        BENCH.dueFault(KIND, 0, "fun f(a: row(1)): row(1) = if 1 < 2 then 1; ^2 else a end");
    }

    private static void kindBehindItself() {
        BENCH.sentence("KIND by the PARAMETERS, each one's behind itself");
        String g = "fun g(x: int, a: row(1), y: int): int = 1";
        BENCH.dueFault(KIND, 1, g, "fun f(a: row(1)): int = g(^a, 1, p)");
        BENCH.dueFault(KIND, 1, g, "fun f(a: row(1)): int = g(1, ^1, p)");
        BENCH.dueFault(NAME, 1, g, "fun f(a: row(1)): int = g(^p, 1, a)");
        BENCH.dueFault(KIND, 1, g, "fun f(a: row(1)): int = g(1, a, ^a)");
        BENCH.dueFault(NAME, 1, g, "fun f(a: row(1)): int = g(1, a, ^p)");
        BENCH.dueFault(KIND, 1, g, "fun f(a: row(1)): int = g(1, ^a; 1, 1)");
        BENCH.dueCheck(1, g, "fun f(a: row(1)): int = g(a; 1, 1; a, 1)");
    }

    private static void noSuchFunction() {
        BENCH.sentence("A CALL: first the function (NAME)");
        BENCH.dueFault(NAME, 0, "fun f(): int = ^g()");
        BENCH.dueFault(NAME, 0, "fun f(): int = 1 + ^g{n}(p)");
        BENCH.dueFault(NAME, 0, "fun f(x: int): int = ^x(p)");
        BENCH.dueFault(NAME, 0, "fun f(): int = ^ff()");
        BENCH.dueCheck(1, "fun f(): int = g()", "fun g(): int = f()");
        BENCH.dueCheck(1, "fun f(f: int): int = f(f)");
        BENCH.c.clear();
        BENCH.dueDefined("fun g(): int = f(1)");
        BENCH.due("it is gone", BENCH.c.check(), NAME);
    }

    private static String[] callee(int indexes, int parameters) {
        String names = "nmpq";
        StringBuilder text = new StringBuilder("fun g");
        for (int k = 0; k < indexes; k++) {
            text.append(k == 0 ? '{' : ',').append(names.charAt(k));
        }
        text.append(indexes > 0 ? "}(" : "(");
        for (int k = 0; k < parameters; k++) {
            text.append(k == 0 ? "" : ",").append("abcde".charAt(k)).append(":int");
        }
        return new String[] {text.append("): int = 1").toString(), null};
    }

    private static String call(int indexes, int parameters) {
        String given = parameters == 0 ? "" : "1" + ",1".repeat(parameters - 1);
        return "g" + (indexes == 0 ? "" : "{1" + ",1".repeat(indexes - 1) + "}") + "(" + given + ")";
    }

    private static void countOfIndexes() {
        BENCH.sentence("COUNT, at the NAME: not as many INDEXES as it has INDEX NAMES");
        for (int has = 0; has <= 4; has++) {
            for (int given = 0; given <= 4; given++) {
                String[] both = callee(has, 2);
                both[1] = "fun f(): int = 1 + " + (has == given ? "" : "^") + call(given, 2);
                if (has == given) {
                    BENCH.dueCheck(1, both);
                } else {
                    BENCH.dueFault(COUNT, 1, both);
                }
            }
        }
    }

    private static void countOfSteps() {
        BENCH.sentence("COUNT, at the NAME: not as many times STEPS as it has PARAMETERS");
        for (int has = 0; has <= 5; has++) {
            for (int given = 0; given <= 5; given++) {
                String[] both = callee(1, has);
                both[1] = "fun f(): int = 1 + " + (has == given ? "" : "^") + call(1, given);
                if (has == given) {
                    BENCH.dueCheck(1, both);
                } else {
                    BENCH.dueFault(COUNT, 1, both);
                }
            }
        }
    }

    private static void callsInTheirOrder() {
        BENCH.sentence("A CALL: first the function, then its INDEXES, then its STEPS");
        String g = "fun g{n, m}(x: int, a: row(1)): int = 1";
        BENCH.dueFault(NAME, 1, g, "fun f(): int = ^h{p}(q)");
        BENCH.dueFault(COUNT, 1, g, "fun f(): int = ^g{p}(q, r)");
        BENCH.dueFault(COUNT, 1, g, "fun f(): int = ^g{p, q}(r)");
        BENCH.dueFault(NAME, 1, g, "fun f(): int = g{^p, q}(r, s)");
        BENCH.dueFault(NAME, 1, g, "fun f(): int = g{1, ^q}(r, s)");
        BENCH.dueFault(NAME, 1, g, "fun f(): int = g{1, 2}(^r, s)");
        BENCH.dueFault(NAME, 1, g, "fun f(): int = g{1, 2}(1, ^s)");
    }

    private static void typeBeforeSteps() {
        BENCH.sentence("a TYPE is worked out before the STEPS that are looked at");
        BENCH.dueFault(NAME, 0, "fun f(): int = (p : int(^q))");
        BENCH.dueFault(NAME, 0, "fun f(): int = (^p : int(1))");
        BENCH.dueFault(NAME, 0, "fun f(): int = (let x = 1 in x : int(^x))");
        BENCH.dueFault(NAME, 0, "fun f(): int = ((p : int(q)) : int(^r))");
        BENCH.dueFault(NAME, 0, "fun f(): int = ((p : int(^q)) : int(1))");
        BENCH.dueFault(NAME, 0, "fun f(): int(^q) = p");
    }

    /** The places of all GOALS are those marked; behind each place there stands the same goal of sort 4. */
    private static void dueLooks(String marked, int each) {
        String text = marked.replace("^", "");
        BENCH.functions(text);
        BENCH.due("check of " + text, BENCH.c.check(), 1);
        int goals = 0;
        int from = 0;
        for (int at = marked.indexOf('^'); at >= 0; at = marked.indexOf('^', at + 1)) {
            for (int k = 0; k < each; k++) {
                BENCH.due("place of goal " + goals + " of " + text, BENCH.c.goal(goals, 1), at - from);
                BENCH.due("sort of goal " + goals + " of " + text, BENCH.c.goal(goals, 2), 4);
                goals++;
            }
            from++;
        }
        BENCH.due("goals of " + text, BENCH.c.count(1), goals);
    }

    private static void lookedAtGoesInto() {
        BENCH.sentence("That it is LOOKED AT goes into the last one of STEPS, the STEPS of a let, both c and d of an if, and into ( ) without a TYPE");
        String[] marked = {
            "^1", "2; ^1", "3; 2; ^1", "let x = 2 in ^1", "let x = 2 in 3; ^1", "if 1 < 2 then ^1 else ^1 end", "(^1)", "((^1))",
            "(2; ^1)",
            "if 1 < 2 then 2; ^1 else let x = 1 in ^x end",
            "let x = 2 in if x < 3 then (^1) else (if x < 4 then ^1 else 2; ^1 end) end",
            "(let x = 1 in let y = x in (y; ^x))", "let x = (let y = 2 in y) in ^1", "(if 1 < 2 then 2 else 2 end); ^1"
        };
        for (String each : marked) {
            dueLooks("fun f(): int(1) = " + each, 2);
            dueLooks("fun f(): int{r | r > 0} = " + each, 1);
            dueLooks("fun f(): int = (" + each + " : int(1))", 2);
            dueLooks("fun f(): int = " + each.replace("^", ""), 0);
        }
        dueLooks("fun f(): row(3) = let a = new 3 in if 1 < 2 then ^a else (^new 3) end", 2);
        // No VARIABLE comes of the if then, and what came in c and d is gone.
        BENCH.dueCheck(1, "fun f(x: int): int(0) = (if x < 0 then new 1; x*x else x*x end : int); 0");
        BENCH.due("variables", BENCH.c.goal(0, 5), 2);
        BENCH.due("facts", BENCH.c.goal(0, 4), 0);
    }

    private static void lookedAtComesBehind() {
        BENCH.sentence("else it comes behind working it out");
        String[] marked = {"^0 + 1", "^(0) + 1", "^1 * (1)", "^a[0] := 1", "^len a", "^out 1", "^out (2; 1)", "^g()", "^g() * 1",
            "^(1) * 1", "^1"};
        for (String each : marked) {
            String text = "fun f(a: row(1)): int{r | r = 1 & r > 0} = " + each;
            int at = text.indexOf('^');
            BENCH.dueCheck(1, text.replace("^", ""), "fun g(): int(1) = 1");
            int last = BENCH.c.count(1) - 3;
            BENCH.due("place of " + each, BENCH.c.goal(last, 1), at);
            BENCH.due("sort of " + each, BENCH.c.goal(last, 2), 4);
            BENCH.due("function of " + each, BENCH.c.goal(last, 0), 0);
        }
        // ( ) with a TYPE is looked at itself, behind what is in it.
        BENCH.dueCheck(1, "fun f(): int(1) = ((1) : int{i | i = 1})");
        BENCH.dueGoals(new int[][] {{0, 20, 4, 1, 0, 0}, {0, 20, 4, 1, 0, 0}, {0, 18, 4, 1, 2, 1}, {0, 18, 4, 1, 2, 1}});
    }

    private static void placesOfGoals() {
        BENCH.sentence("A place of a GOAL is that of the PART x [ a ] or NAME of the CALL; else the first character of what is looked at");
        String g = "fun g{n | n > 0}(x: int(n)): int = 1";
        String f = "fun f(a: row(9)): int{r | r >= 0} = 1 + 2*a[0 + 1]; 3 * g{2}(1 + 1); let y = (a[3] := 4) in 5; 7 - 7";
        BENCH.dueCheck(1, g, f);
        int first = f.indexOf("a[0");
        int call = f.indexOf("g{2");
        int second = f.indexOf("a[3");
        int last = f.indexOf("7 - 7");
        BENCH.dueGoals(new int[][] {
            {1, first, 0, 1, 1, 0}, {1, first, 1, 1, 1, 0}, {1, call, 2, 1, 1, 1}, {1, call, 3, 1, 1, 1}, {1, call, 3, 1, 1, 1},
            {1, second, 0, 1, 1, 2}, {1, second, 1, 1, 1, 2}, {1, last, 4, 1, 1, 2}
        });
    }

    private static void goalsOfAChangeComeBehind() {
        BENCH.sentence("x [ a ] := b: the same GOALS behind b; b's EXPRESSION");
        String f = "fun f(a: row(3)): int(7) = a[0] := a[1] := 7";
        BENCH.dueCheck(1, f);
        int one = f.indexOf("a[0]");
        int two = f.indexOf("a[1]");
        BENCH.dueGoals(new int[][] {{0, two, 0, 1, 1, 0}, {0, two, 1, 1, 1, 0}, {0, one, 0, 1, 1, 0}, {0, one, 1, 1, 1, 0}, {0,
            one, 4, 1, 1, 0}, {0, one, 4, 1, 1, 0}});
        f = "fun f(a: row(3)): int = a[a[0]] := a[1]";
        BENCH.dueCheck(1, f);
        BENCH.due("a first", BENCH.c.goal(0, 1), f.indexOf("a[0]"));
        BENCH.due("then b", BENCH.c.goal(2, 1), f.indexOf("a[1]"));
        BENCH.due("then itself", BENCH.c.goal(4, 1), f.indexOf("a[a"));
        BENCH.due("with both variables", BENCH.c.goal(4, 5), 2);
        BENCH.due("six", BENCH.c.count(1), 6);
    }

    private static void acceptedBySorts() {
        BENCH.sentence("ACCEPTED: no function has a fault, and all GOALS of sorts 2 to 4 are PROVED");
        String g = "fun g{n | n > 0}(x: int(n)): int = 1";
        BENCH.dueCheck(1, g, "fun f(a: row(1), i: int): int = a[i] + a[0 - 1] + a[1]");
        BENCH.due("of six goals two are proved", BENCH.c.count(2), 2);
        BENCH.due("code is there", BENCH.c.code(0, 0, 1), 1);
        BENCH.dueCheck(1, g, "fun f(): int = g{1}(1)");
        BENCH.dueCheck(0, g, "fun f(): int = g{0}(0)");
        BENCH.dueCheck(0, g, "fun f(): int = g{1}(2)");
        BENCH.dueCheck(0, g, "fun f(): int = g{1}(0)");
        BENCH.dueCheck(0, g, "fun f(): int(1) = 2");
        BENCH.dueCheck(0, g, "fun f(): int = (1 : int(2)); 1");
        BENCH.dueThrow("no code", Bench.STATE, () -> BENCH.c.code(0, 0, 0));
        BENCH.dueThrow("no run", Bench.STATE, () -> BENCH.c.run(0, 0, 1));
        BENCH.due("goals are there", BENCH.c.count(1), 2);
        // One that is not PROVED is enough, whichever it is.
        BENCH.dueCheck(0, "fun f(): int(2) = 1", "fun g(): int(1) = 1");
        BENCH.dueCheck(0, "fun f(): int(1) = 1", "fun g(): int(2) = 1");
    }

    private static void freeByBothGoals() {
        BENCH.sentence("An access whose two GOALS are PROVED is FREE");
        String[] accesses = {"a[0]", "a[1]", "a[2]", "a[3]", "a[0 - 1]", "a[x]", "a[y]", "a[z]"};
        int[] proved = {2, 2, 2, 1, 1, 0, 1, 1};
        for (int k = 0; k < accesses.length; k++) {
            for (String change : new String[] {"", " := 1"}) {
                BENCH.dueCheck(1, "fun f(a: row(3), x: int, y: int{i | i >= 0}, z: int{i | i < 3}): int = " + accesses[k]
                + change);
                BENCH.due("accesses", BENCH.c.count(3), 1);
                BENCH.due("proved of " + accesses[k], BENCH.c.count(2), proved[k]);
                BENCH.due("free of " + accesses[k], BENCH.c.count(4), proved[k] == 2 ? 1 : 0);
            }
        }
        BENCH.dueCheck(1, "fun f(a: row(0)): int = a[0]");
        BENCH.due("none is free in an empty row", BENCH.c.count(4), 0);
    }

    private static void noGoalsBehindAFault() {
        BENCH.sentence("or NAME, KIND, COUNT, MANY, the first fault: there are no GOALS then");
        BENCH.dueFault(NAME, 1, "fun g(a: row(1)): int(1) = a[0]; 1", "fun f(a: row(1)): int = a[0]; ^x");
        BENCH.dueFault(KIND, 1, "fun g(a: row(1)): int(1) = a[0]; 1", "fun f(a: row(1)): int = a[0]; ^a");
        BENCH.dueFault(COUNT, 1, "fun g(a: row(1)): int(1) = a[0]; 1", "fun f(a: row(1)): int = a[0]; ^g()");
        BENCH.dueFault(MANY, 1, "fun g(a: row(1)): int(1) = a[0]; 1", "fun f(a: row(1)): int = a[0]; "
            + "let x = 1 in ".repeat(9) + "let ^x = 1 in 1");
        // A fault goes before GOALS that are not PROVED.
        BENCH.dueFault(NAME, 1, "fun g(): int(1) = 2", "fun f(): int = ^x");
    }

    private static void countWhat() {
        BENCH.sentence("count: what = 0 .. 5. IllegalArgument: another what");
        BENCH.dueCheck(1, "fun f(a: row(2), i: int): int = a[i]; a[0]; a[1] := 1", "fun g(): int(1) = 1");
        int[] want = {2, 8, 6, 3, 2, NONE};
        for (int what = 0; what <= 5; what++) {
            BENCH.due("count " + what, BENCH.c.count(what), want[what]);
        }
        for (int what : new int[] {-1, 6, Integer.MIN_VALUE, Integer.MAX_VALUE}) {
            BENCH.dueThrow("count " + what, Bench.ARGUMENT, () -> BENCH.c.count(what));
        }
    }

    private static void countOfNothing() {
        IndexedCompiler c = BENCH.sentence("count: 1 to 4: 0 if nothing is checked, and behind a fault; 5: NONE without one, and if nothing is checked");
        for (int turn = 0; turn < 2; turn++) {
            for (int what = 1; what <= 5; what++) {
                BENCH.due("nothing is checked: " + what, c.count(what), what == 5 ? NONE : 0);
            }
            BENCH.dueDefined("fun " + (char) ('f' + turn) + "(a: row(1)): int(2) = a[0]");
        }
        BENCH.due("not accepted", c.check(), 0);
        int[] want = {2, 8, 4, 2, 2, NONE};
        for (int what = 0; what <= 5; what++) {
            BENCH.due("not accepted: " + what, c.count(what), want[what]);
        }
        BENCH.dueDefined("fun h(a: row(1)): int = a[0] + a");
        BENCH.due("a fault", c.check(), KIND);
        for (int what = 1; what <= 5; what++) {
            BENCH.due("behind a fault: " + what, c.count(what), what == 5 ? 2 : 0);
        }
        c.clear();
        for (int what = 0; what <= 5; what++) {
            BENCH.due("cleared: " + what, c.count(what), what == 5 ? NONE : 0);
        }
        for (int function = 0; function < 3; function++) {
            String[] three = {"fun f(): int = 1", "fun g(): int = 1", "fun h(): int = 1"};
            three[function] = three[function].replace("= 1", "= ^x");
            BENCH.dueFault(NAME, function, three);
        }
    }

    private static void goalWhat() {
        BENCH.sentence("goal: what = 0 .. 5. IllegalArgument: another what");
        String f = "fun f{n}(a: row(n)): int = a[0]";
        BENCH.dueCheck(1, "fun g(): int = 1", f);
        int[] want = {1, f.indexOf("a[0]"), 1, 0, 1, 1};
        for (int what = 0; what <= 5; what++) {
            BENCH.due("goal, " + what, BENCH.c.goal(1, what), want[what]);
        }
        BENCH.due("the first one is PROVED", BENCH.c.goal(0, 3), 1);
        for (int what : new int[] {-1, 6, Integer.MIN_VALUE, Integer.MAX_VALUE}) {
            BENCH.dueThrow("goal, " + what, Bench.ARGUMENT, () -> BENCH.c.goal(0, what));
            BENCH.dueThrow("IllegalArgument goes first, " + what, Bench.ARGUMENT, () -> BENCH.c.goal(2, what));
        }
    }

    private static void goalNumbers() {
        IndexedCompiler c = BENCH.sentence("goal: IllegalState: there is no such GOAL");
        BENCH.dueThrow("nothing is checked", Bench.STATE, () -> c.goal(0, 0));
        BENCH.dueDefined("fun f(a: row(1)): int = a[0]");
        BENCH.dueThrow("still not", Bench.STATE, () -> c.goal(0, 0));
        c.check();
        BENCH.due("the first", c.goal(0, 2), 0);
        BENCH.due("the last", c.goal(1, 2), 1);
        for (int k : new int[] {-1, 2, Integer.MIN_VALUE, Integer.MAX_VALUE}) {
            BENCH.dueThrow("goal " + k, Bench.STATE, () -> c.goal(k, 0));
        }
        BENCH.dueCheck(1, "fun f(): int = 1");
        BENCH.dueThrow("of none", Bench.STATE, () -> BENCH.c.goal(0, 0));
    }

    private static void theLastCheckCounts() {
        BENCH.sentence("of the last check");
        BENCH.dueCheck(0, "fun f(a: row(1)): int(0) = a[0]; a[1]");
        BENCH.due("goals", BENCH.c.count(1), 6);
        BENCH.due("check again", BENCH.c.check(), 0);
        BENCH.due("goals are told once", BENCH.c.count(1), 6);
        BENCH.due("accesses too", BENCH.c.count(3), 2);
        BENCH.due("those that are PROVED", BENCH.c.count(2), 3);
        BENCH.due("those that are FREE", BENCH.c.count(4), 1);
        BENCH.c.clear();
        BENCH.dueDefined("fun f(a: row(1)): int = a[0]");
        BENCH.due("check of another", BENCH.c.check(), 1);
        BENCH.due("its goals", BENCH.c.count(1), 2);
        BENCH.due("its accesses", BENCH.c.count(3), 1);
        BENCH.dueThrow("no goal of the one before", Bench.STATE, () -> BENCH.c.goal(2, 0));
        BENCH.dueDefined("fun g(): int = x");
        BENCH.due("a fault", BENCH.c.check(), NAME);
        BENCH.due("its function", BENCH.c.count(5), 1);
        BENCH.c.clear();
        BENCH.due("none left", BENCH.c.check(), 1);
        BENCH.due("no fault left", BENCH.c.count(5), NONE);
    }
}
