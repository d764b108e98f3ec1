/** Boundaries of promise 10, and what 'Terms' says of CODE. */
public final class CodeBoundaryTest {
    private static final int NONE = IndexedCompiler.NONE;
    private static final Bench BENCH = new Bench("CodeBoundaryTest");

    public static void main(String[] args) {
        noneBehindTheEnd();
        howIs0Or1();
        kIsNotBelow0();
        noSuchFunction();
        notAccepted();
        toldOrClearedSince();
        argumentsGoFirst();
        withFreeOnesAndWithout();
        oneGoalIsNotEnough();
        zeroWhereNoneIsTold();
        localsOfParameters();
        localsOfLets();
        unlessTheRelationHolds();
        goOnAt();
        callsOfEveryFunction();
        theLongest();
        BENCH.end();
    }

    private static void dueBoth(String text, int... numbers) {
        BENCH.dueCheck(1, text);
        BENCH.dueCode(0, 0, numbers);
        BENCH.dueCode(0, 1, numbers);
    }

    private static void noneBehindTheEnd() {
        BENCH.sentence("code: number k of a function's code, from 0 on; NONE behind its end");
        BENCH.dueCheck(1, "fun f(): int = 7", "fun g(): int = 8; 9");
        for (int how = 0; how <= 1; how++) {
            int[] want = {0, 7, 22, 0, NONE, NONE, NONE};
            for (int k = 0; k < want.length; k++) {
                BENCH.due("f, " + how + ", " + k, BENCH.c.code(0, how, k), want[k]);
            }
            BENCH.due("the last of g", BENCH.c.code(1, how, 7), 0);
            BENCH.due("behind g", BENCH.c.code(1, how, 8), NONE);
            for (int k : new int[] {999, 1000, 1001, 100000, Integer.MAX_VALUE - 1, Integer.MAX_VALUE}) {
                BENCH.due("far behind", BENCH.c.code(1, how, k), NONE);
            }
        }
    }

    private static void howIs0Or1() {
        BENCH.sentence("code: IllegalArgument: how is not 0 or 1");
        BENCH.dueCheck(1, "fun f(): int = 7");
        BENCH.dueThrow("0", Bench.NOTHING, () -> BENCH.c.code(0, 0, 0));
        BENCH.dueThrow("1", Bench.NOTHING, () -> BENCH.c.code(0, 1, 0));
        for (int how : new int[] {-1, 2, Integer.MIN_VALUE, Integer.MAX_VALUE}) {
            BENCH.dueThrow("how " + how, Bench.ARGUMENT, () -> BENCH.c.code(0, how, 0));
        }
    }

    private static void kIsNotBelow0() {
        BENCH.sentence("code: IllegalArgument: k below 0");
        BENCH.dueCheck(1, "fun f(): int = 7");
        BENCH.dueThrow("0", Bench.NOTHING, () -> BENCH.c.code(0, 0, 0));
        BENCH.dueThrow("-1", Bench.ARGUMENT, () -> BENCH.c.code(0, 0, -1));
        BENCH.dueThrow("least", Bench.ARGUMENT, () -> BENCH.c.code(0, 1, Integer.MIN_VALUE));
    }

    private static void noSuchFunction() {
        BENCH.sentence("code: IllegalState: there is no such function");
        BENCH.dueCheck(1, "fun f(): int = 7", "fun g(): int = 8");
        BENCH.due("function 0", BENCH.c.code(0, 0, 1), 7);
        BENCH.due("function 1", BENCH.c.code(1, 0, 1), 8);
        for (int function : new int[] {-1, 2, 7, 8, 9, Integer.MIN_VALUE, Integer.MAX_VALUE}) {
            BENCH.dueThrow("function " + function, Bench.STATE, () -> BENCH.c.code(function, 0, 0));
        }
        BENCH.dueCheck(1);
        BENCH.dueThrow("of none", Bench.STATE, () -> BENCH.c.code(0, 0, 0));
    }

    private static void notAccepted() {
        IndexedCompiler c = BENCH.sentence("code: IllegalState: not ACCEPTED");
        BENCH.dueDefined("fun f(): int = 7");
        BENCH.dueThrow("not checked", Bench.STATE, () -> c.code(0, 0, 0));
        BENCH.dueDefined("fun g(): int(1) = 2");
        BENCH.due("a goal is not PROVED", c.check(), 0);
        BENCH.dueThrow("of the one", Bench.STATE, () -> c.code(0, 0, 0));
        BENCH.dueThrow("of the other", Bench.STATE, () -> c.code(1, 0, 0));
        BENCH.dueDefined("fun h(): int = x");
        BENCH.due("a fault", c.check(), IndexedCompiler.NAME);
        BENCH.dueThrow("behind a fault", Bench.STATE, () -> c.code(0, 0, 0));
        // Though what was there before was ACCEPTED.
        for (String text : new String[] {"fun h(): int = x", "fun h(): int(1) = 2", "fun h(): int(x) = 2"}) {
            BENCH.dueCheck(1, "fun f(): int = 7");
            BENCH.due("code", BENCH.c.code(0, 0, 1), 7);
            BENCH.dueDefined(text);
            BENCH.due("not any more", BENCH.c.check() == 1, false);
            BENCH.dueThrow("no code", Bench.STATE, () -> BENCH.c.code(0, 0, 0));
            BENCH.dueThrow("no run", Bench.STATE, () -> BENCH.c.run(0, 0, 9));
        }
    }

    private static void toldOrClearedSince() {
        BENCH.sentence("code: IllegalState: (or functions were told or cleared since)");
        BENCH.dueCheck(1, "fun f(): int = 7");
        IndexedCompiler c = BENCH.c;
        BENCH.dueDefined("fun g(): int = 8");
        BENCH.dueThrow("told since", Bench.STATE, () -> c.code(0, 0, 0));
        BENCH.due("check", c.check(), 1);
        BENCH.due("code", c.code(1, 0, 1), 8);
        c.clear();
        BENCH.dueThrow("cleared since", Bench.STATE, () -> c.code(0, 0, 0));
        BENCH.due("check of none", c.check(), 1);
        BENCH.dueThrow("still none", Bench.STATE, () -> c.code(0, 0, 0));
        BENCH.dueDefined("fun h(): int = 9");
        BENCH.due("check of h", c.check(), 1);
        BENCH.dueCode(0, 0, 0, 9, 22, 0);
        BENCH.dueThrow("of g there is none left", Bench.STATE, () -> c.code(1, 0, 0));
        // What is refused is not told.
        BENCH.dueSign("fun k(): int = ^");
        BENCH.dueRefused("fun h(): int = 1", IndexedCompiler.SAME, 4);
        BENCH.due("code is there", c.code(0, 0, 1), 9);
    }

    private static void argumentsGoFirst() {
        IndexedCompiler c = BENCH.sentence("of several exceptions the first one listed is thrown (code)");
        BENCH.dueThrow("how, not checked", Bench.ARGUMENT, () -> c.code(0, 2, 0));
        BENCH.dueThrow("k, not checked", Bench.ARGUMENT, () -> c.code(0, 0, -1));
        BENCH.dueThrow("not checked", Bench.STATE, () -> c.code(0, 0, 0));
        c.check();
        BENCH.dueThrow("how, no function", Bench.ARGUMENT, () -> c.code(-1, -1, 0));
        BENCH.dueThrow("k, no function", Bench.ARGUMENT, () -> c.code(9, 1, -1));
    }

    private static void withFreeOnesAndWithout() {
        BENCH.sentence("with how = 0 without FREE ones, with 1 with them");
        BENCH.dueCheck(1, "fun f(a: row(2)): int = a[0]; a[1] := 3");
        BENCH.dueCode(0, 0, 1, 0, 0, 0, 10, 0, 3, 0, 1, 0, 0, 1, 0, 3, 12, 0, 22, 0);
        BENCH.dueCode(0, 1, 1, 0, 0, 0, 11, 0, 3, 0, 1, 0, 0, 1, 0, 3, 13, 0, 22, 0);
        BENCH.due("check again", BENCH.c.check(), 1);
        BENCH.dueCode(0, 0, 1, 0, 0, 0, 10, 0, 3, 0, 1, 0, 0, 1, 0, 3, 12, 0, 22, 0);
        // A number told with an instruction is no instruction.
        dueBoth("fun f(): int = 11; 13; 10; 12", 0, 11, 3, 0, 0, 13, 3, 0, 0, 10, 3, 0, 0, 12, 22, 0);
        dueBoth("fun f(): int = 1/11/13", 0, 1, 7, 11, 7, 13, 22, 0);
    }

    private static void oneGoalIsNotEnough() {
        BENCH.sentence("11 get, FREE; 13 put, FREE: by both GOALS");
        int[] free = {1, 1, 0, 0, 0};
        String[] at = {"0", "1", "2", "0 - 1", "x"};
        for (int k = 0; k < at.length; k++) {
            BENCH.dueCheck(1, "fun f(x: int, a: row(2)): int = a[" + at[k] + "]");
            int place = at[k].length() > 1 ? 8 : 4;
            BENCH.due("get at " + at[k], BENCH.c.code(0, 1, place), 10 + free[k]);
            BENCH.due("with all checks", BENCH.c.code(0, 0, place), 10);
            BENCH.dueCheck(1, "fun f(x: int, a: row(2)): int = a[" + at[k] + "] := 5");
            BENCH.due("put at " + at[k], BENCH.c.code(0, 1, place + 2), 12 + free[k]);
            BENCH.due("with all checks", BENCH.c.code(0, 0, place + 2), 12);
        }
    }

    private static void zeroWhereNoneIsTold() {
        BENCH.sentence("a code and a number (0 where none is told)");
        BENCH.dueCheck(1, "fun f(x: int, a: row(9)): int = out len a; new 7; a[x] := a[8] + 6 - 5 * x; x",
            "fun g(a: row(9)): int = 1");
        BENCH.dueCode(0, 0, 1, 1, 8, 0, 14, 0, 3, 0, 0, 7, 9, 0, 3, 0, 1, 1, 1, 0, 1, 1, 0, 8, 10, 0, 0, 6, 4, 0, 0, 5, 1, 0, 6,
            0, 5, 0, 12, 0, 3, 0, 1, 0, 22, 0);
        dueBoth("fun f(): int = 0", 0, 0, 22, 0);
        dueBoth("fun f(): int = 999/999", 0, 999, 7, 999, 22, 0);
        dueBoth("fun f(): int = ((7 : int(7)))", 0, 7, 22, 0);
    }

    private static void localsOfParameters() {
        BENCH.sentence("PARAMETERS are locals 0, 1, ..");
        for (int k = 0; k < 5; k++) {
            dueBoth("fun f{n, m, p, q}(a: int, b: int, c: int, d: int, e: int): int = " + "abcde".charAt(k), 1, k, 22, 0);
        }
        dueBoth("fun f{n}(x: int, a: row(n)): int = len a", 1, 1, 8, 0, 22, 0);
    }

    private static void localsOfLets() {
        BENCH.sentence("a let has the next one (those of lets that are over come again)");
        dueBoth("fun f(): int = let x = 5 in x", 0, 5, 2, 0, 1, 0, 22, 0);
        dueBoth("fun f{n, m}(a: int, b: int): int = let x = 5 in let y = 6 in x; y", 0, 5, 2, 2, 0, 6, 2, 3, 1, 2, 3, 0, 1, 3,
            22, 0);
        dueBoth("fun f(): int = (let x = 5 in x); (let y = 6 in y)", 0, 5, 2, 0, 1, 0, 3, 0, 0, 6, 2, 0, 1, 0, 22, 0);
        dueBoth("fun f(): int = let x = let y = 5 in y in x", 0, 5, 2, 0, 1, 0, 2, 0, 1, 0, 22, 0);
        dueBoth("fun f(): int = let x = 5 in let x = x in x", 0, 5, 2, 0, 1, 0, 2, 1, 1, 1, 22, 0);
        dueBoth("fun f(): int = let x = 5 in (let x = 6 in x); x", 0, 5, 2, 0, 0, 6, 2, 1, 1, 1, 3, 0, 1, 0, 22, 0);
        BENCH.dueCheck(1, "fun f(a: int, b: int, c: int, d: int, e: int): int = " + "let x = 1 in ".repeat(5) + "x");
        BENCH.due("the tenth", BENCH.c.code(0, 0, 19), 9);
        BENCH.due("it is taken", BENCH.c.code(0, 0, 21), 9);
    }

    private static void unlessTheRelationHolds() {
        BENCH.sentence("17 .. 21 take two and go on at n unless the RELATION 0 .. 4 holds");
        String[] relations = {"<", "<=", "=", ">=", ">"};
        for (int r = 0; r < 5; r++) {
            dueBoth("fun f(x: int): int = if x " + relations[r] + " 7 then 8 else 9 end", 1, 0, 0, 7, 17 + r, 5, 0, 8, 16, 6, 0,
                9, 22, 0);
        }
    }

    private static void goOnAt() {
        BENCH.sentence("if: a, b, 17 .. 21 (on to d), c, 16 (behind d), d; instructions of a function count from 0");
        dueBoth("fun f(): int = 5; if 1 < 2 then 3; 4 else 6; 7 end; 8",
            0, 5, 3, 0, 0, 1, 0, 2, 17, 9, 0, 3, 3, 0, 0, 4, 16, 12, 0, 6, 3, 0, 0, 7, 3, 0, 0, 8, 22, 0);
        dueBoth("fun f(): int = if 1 < 2 then if 3 < 4 then 5 else 6 end else if 7 < 8 then 9 else 10 end end",
            0, 1, 0, 2, 17, 10, 0, 3, 0, 4, 17, 8, 0, 5, 16, 9, 0, 6, 16, 16, 0, 7, 0, 8, 17, 15, 0, 9, 16, 16, 0, 10, 22, 0);
        BENCH.dueCheck(1, "fun f(): int = 1; 2; 3", "fun g(): int = if 1 < 2 then 3 else 4 end");
        BENCH.dueCode(1, 0, 0, 1, 0, 2, 17, 5, 0, 3, 16, 6, 0, 4, 22, 0);
    }

    private static void callsOfEveryFunction() {
        BENCH.sentence("15 call function n; CALL: its STEPS, 15");
        String[] eight = new String[8];
        for (int k = 0; k < 8; k++) {
            eight[k] = "fun f" + (char) ('a' + k) + "(x: int, y: int): int = f" + (char) ('h' - k) + "(" + k + ", x)";
        }
        BENCH.dueCheck(1, eight);
        for (int k = 0; k < 8; k++) {
            BENCH.dueCode(k, k % 2, 0, k, 1, 0, 15, 7 - k, 22, 0);
        }
        dueBoth("fun f(): int = f()", 15, 0, 22, 0);
        dueBoth("fun f{n, m}(x: int): int = f{1, n}(2; 3)", 0, 2, 3, 0, 0, 3, 15, 0, 22, 0);
    }

    private static void theLongest() {
        BENCH.sentence("the code of a LINE of 480 characters is whole");
        String header = "fun f():int=";
        BENCH.dueCheck(1, header + "1+".repeat(233) + "12");
        BENCH.due("the last push", BENCH.c.code(0, 0, 931), 12);
        BENCH.due("the last sum", BENCH.c.code(0, 0, 932), 4);
        BENCH.due("22", BENCH.c.code(0, 1, 934), 22);
        BENCH.due("its number", BENCH.c.code(0, 1, 935), 0);
        BENCH.due("behind", BENCH.c.code(0, 1, 936), NONE);
        BENCH.dueCheck(1, header + "1;".repeat(233) + "12");
        BENCH.due("22", BENCH.c.code(0, 0, 934), 22);
        BENCH.due("behind", BENCH.c.code(0, 0, 936), NONE);
    }
}
