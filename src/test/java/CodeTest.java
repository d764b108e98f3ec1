/** Promise 10: the code of functions, with FREE ones and without. */
public final class CodeTest {
    private static final Bench BENCH = new Bench("CodeTest");

    public static void main(String[] args) {
        arithmetic();
        rows();
        sequencesAndLets();
        choices();
        calls();
        free();
        numbersThatLookFree();
        whenThereIsNone();
        wrongArguments();
        BENCH.end();
    }

    private static void dueBoth(String text, int... numbers) {
        BENCH.dueCheck(1, text);
        BENCH.dueCode(0, 0, numbers);
        BENCH.dueCode(0, 1, numbers);
    }

    private static void arithmetic() {
        dueBoth("fun f(): int = 999", 0, 999, 22, 0);
        dueBoth("fun f(x: int, y: int): int = y", 1, 1, 22, 0);
        dueBoth("fun f(x: int): int = x + 2 * 3 - x / 4", 1, 0, 0, 2, 0, 3, 6, 0, 4, 0, 1, 0, 7, 4, 5, 0, 22, 0);
        dueBoth("fun f(): int = 1 - 2 - 3", 0, 1, 0, 2, 5, 0, 0, 3, 5, 0, 22, 0);
        dueBoth("fun f(): int = 1 - (2 - 3)", 0, 1, 0, 2, 0, 3, 5, 0, 5, 0, 22, 0);
        dueBoth("fun f(): int = 8 / 2 * 3 / 4", 0, 8, 7, 2, 0, 3, 6, 0, 7, 4, 22, 0);
        dueBoth("fun f(): int = ((5) : int(5))", 0, 5, 22, 0);
    }

    private static void rows() {
        dueBoth("fun f{n}(a: row(n), i: int): int = a[i]", 1, 0, 1, 1, 10, 0, 22, 0);
        dueBoth("fun f{n}(i: int, a: row(n)): int = a[i + 1] := i", 1, 1, 1, 0, 0, 1, 4, 0, 1, 0, 12, 0, 22, 0);
        dueBoth("fun f{n}(a: row(n)): int = len a", 1, 0, 8, 0, 22, 0);
        dueBoth("fun f(): row(3) = new 3", 0, 3, 9, 0, 22, 0);
        dueBoth("fun f(x: int): int = out out x", 1, 0, 14, 0, 14, 0, 22, 0);
    }

    private static void sequencesAndLets() {
        dueBoth("fun f(): int = 1; 2; 3", 0, 1, 3, 0, 0, 2, 3, 0, 0, 3, 22, 0);
        dueBoth("fun f(): int = (1; 2) + 3", 0, 1, 3, 0, 0, 2, 0, 3, 4, 0, 22, 0);
        dueBoth("fun f(x: int): int = let y = x in let z = y in z; y", 1, 0, 2, 1, 1, 1, 2, 2, 1, 2, 3, 0, 1, 1, 22, 0);
        dueBoth("fun f(): int = (let y = 1 in y) + (let z = 2 in z)", 0, 1, 2, 0, 1, 0, 0, 2, 2, 0, 1, 0, 4, 0, 22, 0);
        dueBoth("fun f{n}(): int = let y = let z = 1 in z in y", 0, 1, 2, 0, 1, 0, 2, 0, 1, 0, 22, 0);
        dueBoth("fun f(x: int): int = let x = x + 1 in x", 1, 0, 0, 1, 4, 0, 2, 1, 1, 1, 22, 0);
    }

    private static void choices() {
        String[] relations = {"<", "<=", "=", ">=", ">"};
        for (int k = 0; k < 5; k++) {
            dueBoth("fun f(x: int): int = if x " + relations[k] + " 7 then 1 else 2 end",
                1, 0, 0, 7, 17 + k, 5, 0, 1, 16, 6, 0, 2, 22, 0);
        }
        dueBoth("fun f(x: int): int = if x < 1 then if x < 2 then 3; 4 else 5 end else 6 end; 7",
            1, 0, 0, 1, 17, 12, 1, 0, 0, 2, 17, 10, 0, 3, 3, 0, 0, 4, 16, 11, 0, 5, 16, 13, 0, 6, 3, 0, 0, 7, 22, 0);
    }

    private static void calls() {
        BENCH.dueCheck(1, "fun f(): int = g(1, 2; h()) + f()", "fun g(x: int, y: int): int = x", "fun h(): int = 3");
        BENCH.dueCode(0, 0, 0, 1, 0, 2, 3, 0, 15, 2, 15, 1, 15, 0, 4, 0, 22, 0);
        BENCH.dueCode(1, 0, 1, 0, 22, 0);
        BENCH.dueCode(2, 0, 0, 3, 22, 0);
        BENCH.dueCheck(1, "fun f{n}(x: int(n)): int = f{n}((x : int(n)))");
        BENCH.dueCode(0, 1, 1, 0, 15, 0, 22, 0);
    }

    private static void free() {
        BENCH.dueCheck(1, "fun f(a: row(2), i: int): int = a[0]; a[i]; a[1] := a[2] := 3");
        BENCH.dueCode(0, 0, 1, 0, 0, 0, 10, 0, 3, 0, 1, 0, 1, 1, 10, 0, 3, 0,
            1, 0, 0, 1, 1, 0, 0, 2, 0, 3, 12, 0, 12, 0, 22, 0);
        BENCH.dueCode(0, 1, 1, 0, 0, 0, 11, 0, 3, 0, 1, 0, 1, 1, 10, 0, 3, 0,
            1, 0, 0, 1, 1, 0, 0, 2, 0, 3, 12, 0, 13, 0, 22, 0);
        BENCH.dueCheck(1, "fun f{n}(a: row(n), i: int{k | 0 <= k}): int = if i < len a then a[i] else a[i] end");
        BENCH.due("free under then", BENCH.c.code(0, 1, 12), 11);
        BENCH.due("not under else", BENCH.c.code(0, 1, 20), 10);
    }

    /** A number told with an instruction stays as it is, even if it is 11 or 13. */
    private static void numbersThatLookFree() {
        dueBoth("fun f(): int = 11 + 13 / 11 / 13", 0, 11, 0, 13, 7, 11, 7, 13, 4, 0, 22, 0);
    }

    private static void whenThereIsNone() {
        BENCH.functions("fun f(): int = 1");
        IndexedCompiler c = BENCH.c;
        BENCH.dueThrow("not checked", Bench.STATE, () -> c.code(0, 0, 0));
        c.check();
        BENCH.due("checked", c.code(0, 0, 1), 1);
        for (int function : new int[] {-1, 1, 8, Integer.MAX_VALUE, Integer.MIN_VALUE}) {
            BENCH.dueThrow("function " + function, Bench.STATE, () -> c.code(function, 0, 0));
        }
        BENCH.dueDefined("fun g(): int(1) = 2");
        BENCH.dueThrow("told since", Bench.STATE, () -> c.code(0, 0, 0));
        BENCH.due("check", c.check(), 0);
        BENCH.dueThrow("not accepted", Bench.STATE, () -> c.code(0, 0, 0));
        c.clear();
        BENCH.dueThrow("cleared", Bench.STATE, () -> c.code(0, 0, 0));
        BENCH.dueDefined("fun h(): int = 1; 2");
        BENCH.due("check of the new one", c.check(), 1);
        BENCH.dueCode(0, 0, 0, 1, 3, 0, 0, 2, 22, 0);
    }

    private static void wrongArguments() {
        BENCH.dueCheck(1, "fun f(): int = 1");
        IndexedCompiler c = BENCH.c;
        for (int wrong : new int[] {-1, 2, Integer.MAX_VALUE, Integer.MIN_VALUE}) {
            BENCH.dueThrow("how", Bench.ARGUMENT, () -> c.code(0, wrong, 0));
            BENCH.dueThrow("how goes first", Bench.ARGUMENT, () -> c.code(9, wrong, 0));
        }
        BENCH.dueThrow("k", Bench.ARGUMENT, () -> c.code(0, 0, -1));
        BENCH.dueThrow("k far", Bench.ARGUMENT, () -> c.code(0, 0, Integer.MIN_VALUE));
        BENCH.dueThrow("k goes first", Bench.ARGUMENT, () -> c.code(9, 0, -1));
    }
}
