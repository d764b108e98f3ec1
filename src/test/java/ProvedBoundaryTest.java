/** Boundaries of FACTS, GOALS and of what is PROVED: promises 19 to 21, and what 'Terms' says of these. */
public final class ProvedBoundaryTest {
    private static final int MILLION = 1000000;
    private static final int NO_BOUND = Integer.MIN_VALUE;
    // Of a number that stands in each RELATION to 5.
    private static final int[] LEAST = {NO_BOUND, NO_BOUND, 5, 5, 6};
    private static final int[] MOST = {4, 5, 5, NO_BOUND, NO_BOUND};
    // Of one that does not.
    private static final int[] LEAST_NOT = {5, 6, NO_BOUND, NO_BOUND, NO_BOUND};
    private static final int[] MOST_NOT = {NO_BOUND, NO_BOUND, NO_BOUND, 4, 5};
    private static final Bench BENCH = new Bench("ProvedBoundaryTest");

    public static void main(String[] args) {
        factsOfPropsOfAFunction();
        factsOfParameters();
        factsOfThen();
        factsOfElse();
        factsOfATypeThatItHas();
        factsOfACallsType();
        factsOfRows();
        factsOfQuotients();
        goalsByNumbers();
        goalsOfCalls();
        goalsOfExactTypes();
        goalsOfAccesses();
        factArguments();
        factsAreForty();
        askArguments();
        askIsNotBelow0();
        forgetTellsHowMany();
        tightenedDown();
        whatIsTightened();
        onlyTheLeastIsKept();
        eachWithEach();
        theGreatestVariableGoes();
        numbersBeyondAMilliard();
        numbersBeyondAMilliardBelow();
        numbersBeyondInWhatIsLeftOut();
        numbersBeforeVariables();
        beyondAtTheBeginning();
        beyondBeforeItIsFalse();
        theNextOneIsLookedAtAnew();
        eightyAreKept();
        whatIsNotCountedAmongEighty();
        withoutVariablesLeft();
        BENCH.end();
    }

    // ---- FACTS, by what is PROVED from them and what just is not

    /** In the STEPS marked ?, that subject is not below least and not above most, and no more than that is PROVED. */
    private static void dueBounds(String text, String subject, int least, int most, String... others) {
        dueProved(least == NO_BOUND ? 0 : 1, text, subject + " >= " + (least == NO_BOUND ? "0 - 999" : "" + least), others);
        dueProved(0, text, subject + " > " + (least == NO_BOUND ? "0 - 999" : "" + least), others);
        dueProved(most == NO_BOUND ? 0 : 1, text, subject + " <= " + (most == NO_BOUND ? "999" : "" + most), others);
        dueProved(0, text, subject + " < " + (most == NO_BOUND ? "999" : "" + most), others);
    }

    private static void dueProved(int want, String text, String prop, String... others) {
        String[] all = new String[others.length + 1];
        System.arraycopy(others, 0, all, 1, others.length);
        all[0] = text.replace("?", "(0 : int{j | " + prop + "})");
        BENCH.dueCheck(want, all);
    }

    private static void factsOfPropsOfAFunction() {
        BENCH.sentence("A PROP a r b is told so: < as b - a - 1; <= as b - a; = as b - a and a - b; >= as a - b; > as a - b - 1 (a function's PROPS are FACTS)");
        for (int r = 0; r < 5; r++) {
            dueBounds("fun f{n | n " + Bench.RELATIONS[r] + " 5}(): int = ?", "n", LEAST[r], MOST[r]);
            dueBounds("fun f{n | 5 " + Bench.RELATIONS[r] + " n}(): int = ?", "n", LEAST[4 - r], MOST[4 - r]);
        }
        dueBounds("fun f{n}(): int = ?", "n", NO_BOUND, NO_BOUND);
        dueBounds("fun f{n | n > 3 & n < 9 & n <= 7 & n >= 5}(): int = ?", "n", 5, 7);
    }

    private static void factsOfParameters() {
        BENCH.sentence("int { i | P }: a new VARIABLE, P being FACTS, i being it; int: a new VARIABLE; int ( I ): I");
        for (int r = 0; r < 5; r++) {
            dueBounds("fun f(x: int{i | i " + Bench.RELATIONS[r] + " 5}): int = ?", "x", LEAST[r], MOST[r]);
            dueBounds("fun f(x: int{i | 5 " + Bench.RELATIONS[r] + " i}): int = ?", "x", LEAST[4 - r], MOST[4 - r]);
        }
        dueBounds("fun f(x: int): int = ?", "x", NO_BOUND, NO_BOUND);
        dueBounds("fun f(x: int(5)): int = ?", "x", 5, 5);
        dueBounds("fun f{n | n < 5}(x: int(n + 3)): int = ?", "x", NO_BOUND, 7);
        dueBounds("fun f(y: int{i | i <= 2}, x: int{i | i < y}): int = ?", "x", NO_BOUND, 1);
    }

    private static void factsOfThen() {
        BENCH.sentence("if a r b then c: c with the FACTS of a r b");
        for (int r = 0; r < 5; r++) {
            dueBounds("fun f(x: int): int = if x " + Bench.RELATIONS[r] + " 5 then ? else 0 end", "x", LEAST[r], MOST[r]);
            dueBounds("fun f(x: int): int = let y = if 5 " + Bench.RELATIONS[r] + " x then ? else 0 end in 0", "x", LEAST[4 - r],
                MOST[4 - r]);
            dueBounds("fun f(x: int): int = (if x " + Bench.RELATIONS[r] + " 5 then 0 else 0 end); ?", "x", NO_BOUND, NO_BOUND);
        }
    }

    private static void factsOfElse() {
        BENCH.sentence("else d: d with those of its contrary (of = none)");
        for (int r = 0; r < 5; r++) {
            dueBounds("fun f(x: int): int = if x " + Bench.RELATIONS[r] + " 5 then 0 else ? end", "x", LEAST_NOT[r], MOST_NOT[r]);
            dueBounds("fun f(x: int): int = let y = if x " + Bench.RELATIONS[r] + " 5 then 0 else ? end in 0", "x", LEAST_NOT[r],
                MOST_NOT[r]);
        }
    }

    private static void factsOfATypeThatItHas() {
        BENCH.sentence("( a : T ): it is LOOKED AT that a is T, then it HAS T");
        for (int r = 0; r < 5; r++) {
            int fits = LEAST[r] == NO_BOUND ? MOST[r] : LEAST[r];
            dueBounds("fun f(): int = let x = (" + fits + " : int{i | i " + Bench.RELATIONS[r] + " 5}) in ?", "x", LEAST[r], MOST[r]);
        }
        dueBounds("fun f(): int = let x = (5 : int(5)) in ?", "x", 5, 5);
        dueBounds("fun f(): int = let x = (5 : int) in ?", "x", NO_BOUND, NO_BOUND);
    }

    private static void factsOfACallsType() {
        BENCH.sentence("A CALL: at last it HAS its TYPE");
        for (int r = 0; r < 5; r++) {
            int fits = LEAST[r] == NO_BOUND ? MOST[r] : LEAST[r];
            dueBounds("fun f(): int = let x = g{5}(1) in ?", "x", LEAST[r], MOST[r], "fun g{n}(y: int): int{i | i "
                + Bench.RELATIONS[r] + " 5} = " + fits);
        }
        dueBounds("fun f(): int = let x = g{2}(3) in ?", "x", 8, 8, "fun g{n}(y: int): int(n + 2*y) = g{n}(y)");
        dueBounds("fun f(): int = let x = g{2}(3) in ?", "x", NO_BOUND, NO_BOUND, "fun g{n}(y: int): int = 1");
        dueBounds("fun f(): int = let a = g{2}(3) in let x = len a in ?", "x", 5, 5, "fun g{n}(y: int): row(n + y) = g{n}(y)");
        dueBounds("fun f(z: int): int = let a = g{z}(3) in ?", "z", 2, NO_BOUND, "fun g{n}(y: int): row(n - 2) = g{n}(y)");
    }

    private static void factsOfRows() {
        BENCH.sentence("row ( I ): a row as long as I, and I is a FACT; new a: a row as long as a, and a is a FACT");
        dueBounds("fun f{n}(a: row(n)): int = ?", "n", 0, NO_BOUND);
        dueBounds("fun f{n}(a: row(n - 3)): int = ?", "n", 3, NO_BOUND);
        dueBounds("fun f{n}(a: row(7 - n)): int = let x = len a in (x : int(7 - n)); ?", "n", NO_BOUND, 7);
        dueBounds("fun f(x: int): int = ?; new x; 1", "x", NO_BOUND, NO_BOUND);
        dueBounds("fun f(x: int): int = new x; ?", "x", 0, NO_BOUND);
        dueBounds("fun f(x: int): int = let a = new (x - 5) in let y = len a in (y : int(x - 5)); ?", "x", 5, NO_BOUND);
        dueBounds("fun f(x: int): int = let a = if x < 0 then new 3 else new 4 end in let y = len a in ?", "y", 0, NO_BOUND);
        dueBounds("fun f(x: int, a: row(4)): int = let b = (a : row(4)) in let y = len b in ?", "y", 4, 4);
    }

    private static void factsOfQuotients() {
        BENCH.sentence("a / n: a new VARIABLE q; FACTS a - n q, and n q + n - 1 - a");
        for (int n : new int[] {1, 2, 3, 999}) {
            String text = "fun f(x: int): int = let q = x / " + n + " in ?";
            dueProved(1, text, n + "*q <= x");
            dueProved(0, text, n + "*q < x");
            dueProved(1, text, "x <= " + n + "*q + " + (n - 1));
            dueProved(0, text, "x < " + n + "*q + " + (n - 1));
        }
        dueBounds("fun f(): int = let q = 7 / 2 in ?", "q", 3, 3);
        dueBounds("fun f(): int = let q = 8 / 2 in ?", "q", 4, 4);
        dueBounds("fun f(): int = let q = 3 + (0 - 7) / 2 in ?", "1 + q", 0, 0);
        dueBounds("fun f(): int = let q = 3 + (0 - 6) / 2 in ?", "q", 0, 0);
        dueBounds("fun f(x: int{i | 0 <= i & i <= 9}): int = let q = x / 5 in ?", "q", 0, 1);
    }

    // ---- GOALS, at the number where they begin to hold and next to it

    private static void goalsByNumbers() {
        BENCH.sentence("THAT a IS T: int { i | P }: P, i being a; for int none");
        for (int r = 0; r < 5; r++) {
            for (int number = 4; number <= 6; number++) {
                String type = "int{i | i " + Bench.RELATIONS[r] + " 5}";
                BENCH.dueCheck(Bench.holds(r, number, 5) ? 1 : 0, "fun f(): " + type + " = " + number);
                BENCH.due("goals", BENCH.c.count(1), r == 2 ? 2 : 1);
                BENCH.dueCheck(Bench.holds(r, number, 5) ? 1 : 0, "fun f(): int = (" + number + " : " + type + ")");
                BENCH.dueCheck(Bench.holds(r, 5, number) ? 1 : 0, "fun f(): int{i | 5 " + Bench.RELATIONS[r] + " i} = " + number);
            }
        }
        BENCH.dueCheck(0, "fun f(): int{i | i = 5} = 4");
        BENCH.due("b - a first", BENCH.c.goal(0, 3), 1);
        BENCH.due("then a - b", BENCH.c.goal(1, 3), 0);
        BENCH.dueCheck(0, "fun f(): int{i | i = 5} = 6");
        BENCH.due("b - a first", BENCH.c.goal(0, 3), 0);
        BENCH.due("then a - b", BENCH.c.goal(1, 3), 1);
        BENCH.dueCheck(1, "fun f(): int = 4");
        BENCH.due("none", BENCH.c.count(1), 0);
    }

    private static void goalsOfCalls() {
        BENCH.sentence("GOALS: its PROPS (sort 2), then for each PARAMETER that it is of its TYPE (sort 3)");
        for (int r = 0; r < 5; r++) {
            for (int number = 4; number <= 6; number++) {
                BENCH.dueCheck(Bench.holds(r, number, 5) ? 1 : 0, "fun f(): int = g{" + number + "}()", "fun g{n | n " + Bench.RELATIONS[r]
                    + " 5}(): int = 1");
                BENCH.due("sort", BENCH.c.goal(0, 2), 2);
                BENCH.dueCheck(Bench.holds(r, number, 5) ? 1 : 0, "fun f(): int = g(" + number + ")", "fun g(x: int{i | i "
                    + Bench.RELATIONS[r] + " 5}): int = 1");
                BENCH.due("sort", BENCH.c.goal(0, 2), 3);
                BENCH.dueCheck(number == 5 ? 1 : 0, "fun f(): int = g{5}(" + number + ")", "fun g{n}(x: int(n)): int = 1");
                BENCH.dueCheck(number == 5 ? 1 : 0, "fun f(): int = g(new " + number + ")", "fun g(a: row(5)): int = 1");
            }
        }
        String g = "fun g{n | n >= 1 & n < 9}(x: int(n), y: int, z: int{i | i > x}, a: row(z + n)): int = 1";
        BENCH.dueCheck(1, "fun f(): int = g{3}(3, 0, 4, new 7)", g);
        int at = "fun f(): int = ".length();
        BENCH.dueGoals(new int[][] {
            {0, at, 2, 1, 1, 0}, {0, at, 2, 1, 1, 0}, {0, at, 3, 1, 1, 0}, {0, at, 3, 1, 1, 0}, {0, at, 3, 1, 1, 0}, {0, at, 3,
            1, 1, 0}, {0, at, 3, 1, 1, 0}
        });
        BENCH.dueCheck(0, "fun f(): int = g{3}(3, 0, 3, new 6)", g);
        BENCH.due("that of z alone is not PROVED", BENCH.c.count(2) * 10 + BENCH.c.goal(4, 3), 60);
    }

    private static void goalsOfExactTypes() {
        BENCH.sentence("THAT a IS T: int ( I ) and row ( I ): a - I, I - a");
        for (int number = 4; number <= 6; number++) {
            String[] texts = {"fun f(): int(5) = " + number, "fun f(): row(5) = new " + number, "fun f(): int = (" + number
                + " : int(5))", "fun f(): int = (new " + number + " : row(5)); 1"};
            for (String text : texts) {
                BENCH.dueCheck(number == 5 ? 1 : 0, text);
                BENCH.due("goals", BENCH.c.count(1), 2);
                BENCH.due("a - I", BENCH.c.goal(0, 3), number >= 5 ? 1 : 0);
                BENCH.due("I - a", BENCH.c.goal(1, 3), number <= 5 ? 1 : 0);
            }
        }
    }

    private static void goalsOfAccesses() {
        BENCH.sentence("x [ a ]: GOALS a (sort 0), and the length less a less 1 (1)");
        for (String access : new String[] {"a[x]", "a[x] := 1"}) {
            for (int least = 0; least <= 1; least++) {
                BENCH.dueCheck(1, "fun f(a: row(5), x: int{i | i >= 0 - 1 + " + least + " & i < 5}): int = " + access);
                BENCH.due("sort", BENCH.c.goal(0, 2), 0);
                BENCH.due("not below 0", BENCH.c.goal(0, 3), least);
                BENCH.due("below the length", BENCH.c.goal(1, 3), 1);
                BENCH.due("free", BENCH.c.count(4), least);
            }
            for (int most = 4; most <= 5; most++) {
                BENCH.dueCheck(1, "fun f(a: row(5), x: int{i | i >= 0 & i <= " + most + "}): int = " + access);
                BENCH.due("sort", BENCH.c.goal(1, 2), 1);
                BENCH.due("not below 0", BENCH.c.goal(0, 3), 1);
                BENCH.due("below the length", BENCH.c.goal(1, 3), most == 4 ? 1 : 0);
                BENCH.due("free", BENCH.c.count(4), most == 4 ? 1 : 0);
            }
        }
    }

    // ---- the desk

    private static void factArguments() {
        IndexedCompiler c = BENCH.sentence("fact: IllegalArgument: a, b, c not -1000 .. 1000, or d not -1,000,000 .. 1,000,000");
        int many = 0;
        for (int place = 0; place < 4; place++) {
            int limit = place == 3 ? MILLION : 1000;
            for (int number : new int[] {limit - 1, limit, -limit + 1, -limit}) {
                int[] four = new int[4];
                four[place] = number;
                many++;
                BENCH.due("fact of " + number + " at " + place, c.fact(four[0], four[1], four[2], four[3]), many);
            }
            for (int number : new int[] {limit + 1, -limit - 1, Integer.MAX_VALUE, Integer.MIN_VALUE}) {
                int[] four = new int[4];
                four[place] = number;
                BENCH.dueThrow("fact of " + number + " at " + place, Bench.ARGUMENT, () -> c.fact(four[0], four[1], four[2],
                    four[3]));
            }
        }
        BENCH.due("what threw is not there", c.forget(), many);
    }

    private static void factsAreForty() {
        IndexedCompiler c = BENCH.sentence("fact: how many there are. IllegalState: there are 40");
        for (int k = 1; k <= 39; k++) {
            BENCH.due("fact", c.fact(0, 0, 0, k), k);
        }
        BENCH.due("the fortieth", c.fact(1, 0, 0, -7), 40);
        BENCH.dueThrow("one more", Bench.STATE, () -> c.fact(0, 0, 0, -1));
        BENCH.dueThrow("IllegalArgument goes first", Bench.ARGUMENT, () -> c.fact(0, 1001, 0, -1));
        BENCH.due("the fortieth counts", c.ask(1, 0, 0, -7), true);
        BENCH.due("the one that threw does not", c.ask(1, 0, 0, -8), false);
        BENCH.due("forget", c.forget(), 40);
        BENCH.due("room again", c.fact(0, 0, 0, 0), 1);
    }

    private static void askArguments() {
        IndexedCompiler c = BENCH.sentence("ask: IllegalArgument, as with fact");
        for (int place = 0; place < 4; place++) {
            int limit = place == 3 ? MILLION : 1000;
            for (int number : new int[] {limit, -limit}) {
                int[] four = new int[4];
                four[place] = number;
                BENCH.due("ask of " + number + " at " + place, c.ask(four[0], four[1], four[2], four[3]), place == 3
                    && number > 0);
            }
            for (int number : new int[] {limit + 1, -limit - 1, Integer.MAX_VALUE, Integer.MIN_VALUE}) {
                int[] four = new int[4];
                four[place] = number;
                BENCH.dueThrow("ask of " + number + " at " + place, Bench.ARGUMENT, () -> c.ask(four[0], four[1], four[2],
                    four[3]));
            }
        }
        BENCH.due("ask tells no fact", c.forget(), 0);
    }

    private static void askIsNotBelow0() {
        IndexedCompiler c = BENCH.sentence("A FACT, and a GOAL, is an EXPRESSION that is not below 0");
        BENCH.due("0", c.ask(0, 0, 0, 0), true);
        BENCH.due("-1", c.ask(0, 0, 0, -1), false);
        BENCH.due("1", c.ask(0, 0, 0, 1), true);
        c.fact(0, 0, 0, 0);
        BENCH.due("a fact of 0 is not false", c.ask(0, 0, 0, -1), false);
        c.fact(0, 0, 0, -1);
        BENCH.due("a fact of -1 is", c.ask(0, 0, 0, -1), true);
        for (int place = 0; place < 3; place++) {
            IndexedCompiler d = BENCH.fresh();
            int[] four = new int[4];
            four[place] = 1;
            d.fact(four[0], four[1], four[2], -5);
            BENCH.due("5", d.ask(four[0], four[1], four[2], -5), true);
            BENCH.due("6", d.ask(four[0], four[1], four[2], -6), false);
            BENCH.due("4", d.ask(four[0], four[1], four[2], -4), true);
            BENCH.due("the other way", d.ask(-four[0], -four[1], -four[2], 999), false);
            BENCH.due("another one", d.ask(four[2], four[0], four[1], 0), false);
        }
    }

    private static void forgetTellsHowMany() {
        IndexedCompiler c = BENCH.sentence("forget: no FACTS are at the desk any more: how many there were");
        BENCH.due("of none", c.forget(), 0);
        c.fact(1, 0, 0, 0);
        BENCH.due("it is there", c.ask(1, 0, 0, 0), true);
        BENCH.due("of one", c.forget(), 1);
        BENCH.due("it is gone", c.ask(1, 0, 0, 0), false);
        BENCH.due("of none again", c.forget(), 0);
    }

    // ---- how a GOAL is PROVED

    private static void desk(int[]... facts) {
        BENCH.fresh();
        for (int k = 0; k < facts.length; k++) {
            BENCH.due("fact", BENCH.c.fact(facts[k][0], facts[k][1], facts[k][2], facts[k][3]), k + 1);
        }
    }

    private static int[] row(int a, int b, int c, int d) {
        return new int[] {a, b, c, d};
    }

    private static void ask(boolean want, int a, int b, int c, int d) {
        BENCH.due("ask " + a + ", " + b + ", " + c + ", " + d, BENCH.c.ask(a, b, c, d), want);
    }

    private static void tightenedDown() {
        BENCH.sentence("TIGHTENED: divided by the greatest number that divides all numbers before VARIABLES, the number without one rounded down");
        for (int d = -9; d <= 9; d++) {
            int down = Math.floorDiv(d, 3);
            desk(row(3, 0, 0, d));
            ask(true, 1, 0, 0, down);
            ask(false, 1, 0, 0, down - 1);
            desk(row(0, -3, 6, d));
            ask(true, 0, -1, 2, down);
            ask(false, 0, -1, 2, down - 1);
            // Only what divides all of them does.
            desk(row(3, 6, 1, d));
            ask(true, 3, 6, 1, d);
            ask(false, 3, 6, 1, d - 1);
        }
        desk(row(1000, -1000, 0, -1));
        ask(true, 1, -1, 0, -1);
        ask(false, 1, -1, 0, -2);
        desk(row(6, 10, 15, -1));
        ask(true, 6, 10, 15, -1);
        ask(false, 6, 10, 15, -2);
        desk(row(6, 10, 14, -1));
        ask(true, 3, 5, 7, -1);
        ask(false, 3, 5, 7, -2);
    }

    /** Each of these is PROVED only if that is TIGHTENED, too. */
    private static void whatIsTightened() {
        BENCH.sentence("by these and - g - 1, each TIGHTENED; added, TIGHTENED");
        desk(row(0, 2, 0, 1), row(0, -2, 0, -1));
        ask(true, 2, 0, 0, 3);
        desk(row(2, 3, 0, 2), row(3, 0, 0, 1));
        ask(true, 2, 2, 0, 0);
        desk(row(0, 3, -1, 1), row(0, -1, 1, 0));
        ask(true, 0, 1, 3, 1);
        desk(row(0, 0, 1, 0));
        ask(true, 0, 0, 2, 0);
        ask(false, 0, 0, 2, -1);
    }

    private static void onlyTheLeastIsKept() {
        BENCH.sentence("of those that are alike but for that number only the least is kept");
        desk(row(1, 1, 0, -3), row(1, 1, 0, -5), row(2, 2, 0, -8));
        ask(true, 1, 1, 0, -5);
        ask(false, 1, 1, 0, -6);
        desk(row(1, 1, 0, -5), row(1, 1, 0, -3));
        ask(true, 1, 1, 0, -5);
        desk(row(2, 2, 0, -11), row(1, 1, 0, -5));
        ask(true, 1, 1, 0, -6);
        ask(false, 1, 1, 0, -7);
        desk(row(1, 0, 0, -5), row(-1, 0, 0, 5), row(1, 0, 0, -4), row(-1, 0, 0, 6));
        ask(true, 1, 0, 0, -5);
        ask(true, -1, 0, 0, 5);
        ask(false, -1, 0, 0, 4);
    }

    private static void eachWithEach() {
        BENCH.sentence("for each with p times it and each with - q times it (p, q above 0) q times the first and p times the other one are added");
        // Two and two with v2: each of the four sums is needed by one of these.
        desk(row(1, 0, 2, 0), row(0, 1, 3, 0), row(1, 0, -5, 0), row(0, 1, -7, 0));
        ask(true, 7, 2, 0, 0);
        ask(false, 7, 2, 0, -1);
        ask(true, 3, 5, 0, 0);
        ask(false, 3, 5, 0, -1);
        ask(true, 1, 0, 0, 0);
        ask(true, 0, 1, 0, 0);
        ask(false, 1, -1, 0, 0);
        // Those without it stay.
        desk(row(1, 0, 0, -4), row(0, 1, 1, 0), row(0, 1, -1, -7));
        ask(true, 1, 0, 0, -4);
        ask(true, 0, 1, 0, -4);
        ask(false, 0, 1, 0, -5);
        // With one sign alone it goes without a trace.
        desk(row(1, 0, 1, 0), row(1, 0, 2, 0));
        ask(false, 1, 0, 0, 0);
    }

    /** In another order, some of these would be answered otherwise. */
    private static void theGreatestVariableGoes() {
        BENCH.sentence("the VARIABLE with the greatest number goes");
        // If v2 goes first, and not else.
        desk(row(-1, -3, 3, 0), row(0, 0, -2, 2), row(2, 2, 1, 0), row(-3, 1, -2, -3));
        ask(true, 0, 0, 0, -1);
        desk(row(-3, -3, -3, 4), row(-2, 3, 1, 2), row(1, 1, -3, 2), row(1, -2, 3, -2));
        ask(false, 0, 0, 0, -1);
        // And v1 before v0.
        desk(row(2, 1, 1, -1), row(-3, -1, 2, -3), row(1, -2, -3, 2), row(-3, 3, 2, 4));
        ask(true, 0, 0, 0, -1);
        desk(row(-1, -3, 1, -1), row(2, 3, -1, 1), row(-3, -2, -3, 0), row(-3, 0, 2, 3));
        ask(false, 0, 0, 0, -1);
        desk(row(3, 1, -2, -4), row(-1, 0, -1, 4), row(-1, -2, -1, -3), row(0, 1, 3, 1));
        ask(false, 0, 0, 0, -1);
    }

    private static void numbersBeyondAMilliard() {
        BENCH.sentence("if a number in one of all, as TIGHTENED, is beyond 1,000,000,000, g is not PROVED");
        // 999 times the one and 1000 times the other: 999 v0 + 1000 v1 + 1,000,000,000.
        desk(row(1, 0, 0, 0), row(1, 0, 1000, 1000000), row(0, 1, -999, 1000));
        ask(true, 1, 0, 0, 0);
        // + 1,000,000,001
        desk(row(1, 0, 0, 0), row(1, 0, 1000, 999999), row(0, 1, -999, 1001));
        ask(false, 1, 0, 0, 0);
        // + 999,999,999
        desk(row(1, 0, 0, 0), row(1, 0, 1000, 999001), row(0, 1, -999, 1998));
        ask(true, 1, 0, 0, 0);
        // 1000 v0 + 1000 v1 + 2,000,000,000 is v0 + v1 + 2,000,000 as TIGHTENED.
        desk(row(1, 0, 0, 0), row(1, 0, 1000, 1000000), row(0, 1, -1000, 1000000));
        ask(true, 1, 0, 0, 0);
    }

    private static void numbersBeyondAMilliardBelow() {
        BENCH.sentence("beyond 1,000,000,000: below -1,000,000,000, too");
        desk(row(1, 0, 0, 0), row(1, 0, 1000, -1000000), row(0, 1, -999, -1000));
        ask(true, 1, 0, 0, 0);
        desk(row(1, 0, 0, 0), row(1, 0, 1000, -999999), row(0, 1, -999, -1001));
        ask(false, 1, 0, 0, 0);
    }

    private static void numbersBeyondInWhatIsLeftOut() {
        BENCH.sentence("(in those that are left out, too)");
        // Without VARIABLES: 1000 times 1,000,000 at once.
        desk(row(1, 0, 0, 0), row(0, 999, 1000, 500000), row(0, -999, -1000, 500000));
        ask(true, 1, 0, 0, 0);
        desk(row(1, 0, 0, 0), row(0, 999, 1000, 500000), row(0, -999, -1000, 500001));
        ask(false, 1, 0, 0, 0);
        // One of two alike that is not the least.
        desk(row(1, 0, 0, 0), row(999, 1000, 0, 5), row(1, 0, 1000, 1000000), row(0, 1, -999, 1000));
        ask(true, 1, 0, 0, 0);
        desk(row(1, 0, 0, 0), row(999, 1000, 0, 5), row(1, 0, 1000, 999999), row(0, 1, -999, 1001));
        ask(false, 1, 0, 0, 0);
    }

    private static final String MILLION_LETS = "let k = 1 + 999 in let m = k*k in ";

    /** When w goes, 999 times the one and 1000 times the other give 1,000,000,000 x + 999 y, or one x more. */
    private static void numbersBeforeVariables() {
        BENCH.sentence("a number in one of all: those before VARIABLES, too");
        String text = "fun f(x: int{i | i >= 0}, y: int, w: int): int = " + MILLION_LETS
            + "if ? + y + k*w >= 0 then if ! - 999*w >= 0 then (x : int{i | i >= 0}) else 0 end else 0 end";
        BENCH.dueCheck(1, text.replace("?", "m*x").replace("!", "k*x"));
        BENCH.dueCheck(0, text.replace("?", "m*x - x").replace("!", "k*x + x"));
        String below = text.replace("i >= 0", "i <= 0");
        BENCH.dueCheck(1, below.replace("?", "0 - m*x").replace("!", "0 - k*x"));
        BENCH.dueCheck(0, below.replace("?", "x - m*x").replace("!", "0 - k*x - x"));
    }

    private static void beyondAtTheBeginning() {
        BENCH.sentence("(so at the beginning, too)");
        // 999 i + i is 1,000,000,000 then: - g - 1 is that, less 1, below 0; with > it is one less.
        BENCH.dueCheck(1, "fun f(): int = " + MILLION_LETS + "(m : int{i | 999*i + i > 0})");
        BENCH.dueCheck(0, "fun f(): int = " + MILLION_LETS + "(m : int{i | 999*i + i >= 0})");
        // The FACTS are against one another, but a number that is left out is beyond.
        String contrary = "fun f(): int = " + MILLION_LETS
            + "let z = 0 - m in if 1 < 0 then (z : int{i | 999*i + i >= ?}) else 0 end";
        BENCH.dueCheck(1, contrary.replace("?", "0"));
        BENCH.dueCheck(1, contrary.replace("?", "1"));
        BENCH.dueCheck(0, contrary.replace("?", "2"));
        // As TIGHTENED: 2,000,000,000 x is x.
        BENCH.dueCheck(1, "fun f(x: int{i | i >= 0}): int = " + MILLION_LETS + "(m*x : int{i | 999*i + 999*i + 2*i >= 0})");
        String mixed = "fun f(x: int{i | i >= 0}, y: int{i | i >= 0}): int = " + MILLION_LETS
            + "(m*x + ? : int{i | 999*i + i + y >= 0})";
        BENCH.dueCheck(1, mixed.replace("?", "0"));
        BENCH.dueCheck(0, mixed.replace("+ ?", "").replace("999*i + i", "999*i + i + x"));
    }

    private static void beyondBeforeItIsFalse() {
        BENCH.sentence("Before one of these is looked at for being false: g is not PROVED");
        // v1 + 1000 v2 is above 1,000,000 and below - 1,000,000 : false, by a number that is too great.
        desk(row(0, 999, 1000, -500000), row(0, -999, -1000, -500000));
        ask(true, 0, 0, 0, -1);
        desk(row(0, 999, 1000, -500000), row(0, -999, -1000, -500001));
        ask(false, 0, 0, 0, -1);
        // Another one is beyond in the round in which one is false.
        desk(row(0, 0, 1, -1), row(0, 0, -1, 0), row(1, 0, 1000, 999999), row(0, 1, -999, 1001));
        ask(false, 0, 0, 0, -1);
        desk(row(0, 0, 1, -1), row(0, 0, -1, 0), row(1, 0, 1000, 1000000), row(0, 1, -999, 1000));
        ask(true, 0, 0, 0, -1);
        // In the round before it is, g is PROVED: the round in which one would be beyond does not come.
        desk(row(0, 0, 1, -1), row(0, 0, -1, 0), row(1, 1000, 0, 1000000), row(0, -999, 0, 1000000));
        ask(true, 0, 0, 0, -1);
    }

    private static void theNextOneIsLookedAtAnew() {
        BENCH.sentence("g is not PROVED: that one alone");
        desk(row(1, 0, 0, 0), row(1, 0, 1000, 999999), row(0, 1, -999, 1001));
        ask(false, 1, 0, 0, 0);
        ask(true, 0, 0, 0, 5);
        BENCH.c.forget();
        BENCH.c.fact(1, 0, 0, 0);
        ask(true, 1, 0, 0, 0);
        ask(false, 0, 0, 0, -5);
        BENCH.c.fact(0, 0, 0, -1);
        ask(true, 0, 0, 0, -5);
        BENCH.c.forget();
        ask(false, 0, 0, 0, -5);
        BENCH.dueCheck(0, "fun f(): int = " + MILLION_LETS + "(m : int{i | 999*i + i >= 0}); (m : int{i | i >= 0})");
        BENCH.due("the first", BENCH.c.goal(0, 3), 0);
        BENCH.due("the second", BENCH.c.goal(1, 3), 1);
    }

    /** 8 and 10 with v2 make 80 sums that are all different. */
    private static int[][] eighteen() {
        int[][] facts = new int[18][];
        for (int k = 0; k < 8; k++) {
            facts[k] = row(1, k, 1, 0);
        }
        for (int k = 0; k < 10; k++) {
            facts[8 + k] = row(0, 8 * k, -1, 0);
        }
        return facts;
    }

    private static void eightyAreKept() {
        BENCH.sentence("or more than 80 would be kept");
        desk(eighteen());
        // - g - 1 is - v0 - 79 v1 - 1, a row of its own: 81.
        ask(false, 1, 79, 0, 0);
        // Of 79 sums it is the eightieth.
        int[][] facts = eighteen();
        facts[17] = row(0, 71, -1, 0);
        desk(facts);
        ask(true, 1, 3, 0, 0);
        facts[17] = row(0, 73, -1, 0);
        desk(facts);
        ask(false, 1, 3, 0, 0);
    }

    private static void whatIsNotCountedAmongEighty() {
        BENCH.sentence("(not counted: those without VARIABLES, and of alike ones all but one)");
        int[][] facts = eighteen();
        facts[17] = row(0, 71, -1, 0);
        desk(facts);
        ask(true, 1, 3, 0, 0);
        BENCH.c.fact(0, 0, 0, 5);
        BENCH.c.fact(0, 0, 0, 0);
        ask(true, 1, 3, 0, 0);
        BENCH.c.fact(1, 0, 0, 7);
        BENCH.c.fact(1, 5, 0, 7);
        BENCH.c.fact(2, 10, 0, 9);
        ask(true, 1, 3, 0, 0);
        // One that is alike to - g - 1.
        BENCH.c.fact(-1, -3, 0, 9);
        ask(true, 1, 3, 0, 0);
        BENCH.c.fact(1, 79, 0, 0);
        ask(false, 1, 3, 0, 0);
    }

    private static void withoutVariablesLeft() {
        BENCH.sentence("Without VARIABLES left it is not PROVED either");
        desk(row(1, 0, 0, 0), row(-1, 0, 0, 5));
        ask(false, 0, 0, 0, -1);
        ask(false, 1, 0, 0, -1);
        desk();
        ask(false, 1, 1, 1, 1000000);
        BENCH.dueCheck(0, "fun f(): int(1) = 0");
        BENCH.due("variables", BENCH.c.goal(0, 5), 0);
        // No whole numbers are so, but that is not found by these steps.
        desk(row(11, 13, 0, -27), row(-11, -13, 0, 45), row(7, -9, 0, 10), row(-7, 9, 0, 4));
        ask(false, 0, 0, 0, -1);
    }
}
