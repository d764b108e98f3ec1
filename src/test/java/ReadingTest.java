/** Promises 4, 5 and 7 (as far as define goes): FUNCTIONS, SIGN, SAME, FULL, clear. */
public final class ReadingTest {
    private static final Bench BENCH = new Bench("ReadingTest");

    public static void main(String[] args) {
        whatIsRead();
        words();
        headers();
        types();
        steps();
        parts();
        lists();
        depth();
        depthOfEachThing();
        same();
        full();
        clear();
        whatDefineLeaves();
        BENCH.end();
    }

    private static void whatIsRead() {
        String[] good = {
            "fun f(): int = 1",
            "fun f():int=1",
            "   fun   f  (  )  :  int  =  1   ",
            "fun f{n}(a: row(n)): int = a[0]",
            "fun f{n, m, p, q | n < m & m <= p & p = q & q >= 2*n - 3 + m}(): int = 1",
            "fun f{n | 1 > n}(a: row(n), b: int, c: int(n - 1), d: int{i | i < n}, e: int{i | 0 <= i & i > 1 & i = i & i >= 3}): row(n) = a",
            "fun f(a: row(5)): int = a[0] := a[1] := 3; a[2] := let x = 1 in x; 4",
            "fun f(x: int): int = let y = let z = x in z; z in y; let w = y in if w < 1 then 1; 2 else 3; 4 end",
            "fun f(x: int): int = if x + 1 >= 2 * x / 3 then 1 else 2 end",
            "fun f(x: int): int = x - 1 - 2 + 3 * 4 / 5 * x / 999",
            "fun f(x: int): row(1) = new new1/2",
            "fun f(x: int): int = len x + out x * out out (x; x) - (x : int{i | i = i}) + (1; 2 : row(3)) + f{1, 2, n, 4*m}(1; 2, 3, 4, 5, let y = 1 in y)",
            "fun abcdef(): int = 999",
            "fun funny(inta: int, lets: int, ends: int): int = news + 007"
        };
        for (int k = 0; k < good.length; k++) {
            BENCH.fresh();
            BENCH.dueDefined(good[k]);
        }
    }

    private static void words() {
        BENCH.fresh();
        BENCH.dueSign("^");
        BENCH.dueSign("     ^");
        BENCH.dueSign("^fum f(): int = 1");
        BENCH.dueSign("^funf(): int = 1");
        BENCH.dueSign("^Fun f(): int = 1");
        BENCH.dueSign("fun ^abcdefg(): int = 1");
        BENCH.dueSign("fun f^1(): int = 1");
        BENCH.dueSign("fun ^F(): int = 1");
        BENCH.dueSign("fun f(): int = ^1000");
        BENCH.dueSign("fun f(): int = ^0000");
        BENCH.dueSign("fun f(): int = 1^x");
        BENCH.dueSign("fun f(): int = 1 ^2");
        BENCH.dueSign("fun^\tf(): int = 1");
        BENCH.dueSign("fun f(): int = 1^\n");
        BENCH.dueSign("fun f(): int = 1 ^?");
        BENCH.dueSign("fun f(): int = 1 ^\u00ff");
        BENCH.dueSign("fun f() ^:= 1");
        BENCH.dueSign("fun f(): int ^<= 1");
        BENCH.dueSign("fun f(x: int): int = if x = ^= 1 then 1 else 2 end");
        BENCH.dueSign("fun f(x: int): int = if x >= ^= 1 then 1 else 2 end");
        BENCH.dueSign("fun f(x: int): int = if x < ^= 1 then 1 else 2 end");
        for (String word : "fun int row let in if then else end len new out".split(" ")) {
            BENCH.dueSign("fun ^" + word + "(): int = 1");
            BENCH.dueSign("fun f(^" + word + ": int): int = 1");
            BENCH.dueSign("fun f(): int = let ^" + word + " = 1 in 2");
        }
    }

    private static void headers() {
        BENCH.fresh();
        BENCH.dueSign("fun ^");
        BENCH.dueSign("fun f^");
        BENCH.dueSign("fun f   ^");
        BENCH.dueSign("fun f ^: int = 1");
        BENCH.dueSign("fun f{^}(): int = 1");
        BENCH.dueSign("fun f{n,^}(): int = 1");
        BENCH.dueSign("fun f{n ^m}(): int = 1");
        BENCH.dueSign("fun f{n, m, p, q^, r}(): int = 1");
        BENCH.dueSign("fun f{n | ^}(): int = 1");
        BENCH.dueSign("fun f{^| 1 < 2}(): int = 1");
        BENCH.dueSign("fun f{n | n^}(): int = 1");
        BENCH.dueSign("fun f{n | n < ^}(): int = 1");
        BENCH.dueSign("fun f{n | n < 1 ^< 2}(): int = 1");
        BENCH.dueSign("fun f{n | n < 1 & ^}(): int = 1");
        BENCH.dueSign("fun f{n | n<1 & n<1 & n<1 & n<1 ^& n<1}(): int = 1");
        BENCH.dueSign("fun f{n | n < ^(1)}(): int = 1");
        BENCH.dueSign("fun f{n}^: int = 1");
        BENCH.dueSign("fun f(a^): int = 1");
        BENCH.dueSign("fun f(a: ^): int = 1");
        BENCH.dueSign("fun f(a: int,^): int = 1");
        BENCH.dueSign("fun f(^,): int = 1");
        BENCH.dueSign("fun f(a: int ^b: int): int = 1");
        BENCH.dueSign("fun f(a: int, b: int, c: int, d: int, e: int^, g: int): int = 1");
        BENCH.dueSign("fun f() ^= 1");
        BENCH.dueSign("fun f(): ^= 1");
        BENCH.dueSign("fun f(): int ^1");
        BENCH.dueSign("fun f(): int = ^");
        BENCH.dueSign("fun f(): int = 1 ^fun g(): int = 2");
    }

    private static void types() {
        BENCH.fresh();
        BENCH.dueSign("fun f(): row ^= 1");
        BENCH.dueSign("fun f(): row(^) = 1");
        BENCH.dueSign("fun f(): row^{i | i < 1} = 1");
        BENCH.dueSign("fun f(): int(^) = 1");
        BENCH.dueSign("fun f(): int(1 + ^) = 1");
        BENCH.dueSign("fun f(): int(^-1) = 1");
        BENCH.dueSign("fun f(): int(2*^3) = 1");
        BENCH.dueSign("fun f(): int(n^*2) = 1");
        BENCH.dueSign("fun f(): int(2 ^n) = 1");
        BENCH.dueSign("fun f(): int(2^/n) = 1");
        BENCH.dueSign("fun f(): int(^1234*n) = 1");
        BENCH.dueSign("fun f(): int{^} = 1");
        BENCH.dueSign("fun f(): int{i^} = 1");
        BENCH.dueSign("fun f(): int{i^, j | i < j} = 1");
        BENCH.dueSign("fun f(): int{i | ^} = 1");
        BENCH.dueSign("fun f(): int{^1 | 1 < 2} = 1");
        BENCH.dueSign("fun f(): int{i | i<1 & i<1 & i<1 & i<1 ^& i<1} = 1");
        BENCH.dueSign("fun f(): int(1 ^= 1");
        BENCH.dueSign("fun f(): ^f = 1");
    }

    private static void steps() {
        BENCH.fresh();
        BENCH.dueSign("fun f(): int = 1;^");
        BENCH.dueSign("fun f(): int = ^; 1");
        BENCH.dueSign("fun f(): int = 1; ^; 2");
        BENCH.dueSign("fun f(): int = let ^");
        BENCH.dueSign("fun f(): int = let ^1 = 2 in 3");
        BENCH.dueSign("fun f(): int = let x ^:= 2 in 3");
        BENCH.dueSign("fun f(): int = let x = ^in 3");
        BENCH.dueSign("fun f(): int = let x = 1^; 2 in 3");
        BENCH.dueSign("fun f(): int = let x = 1^");
        BENCH.dueSign("fun f(): int = let x = 1 in^");
        BENCH.dueSign("fun f(): int = let x = 1 in 2 ^in 3");
        BENCH.dueSign("fun f(): int = if 1 ^then 2 else 3 end");
        BENCH.dueSign("fun f(): int = if 1 < ^then 2 else 3 end");
        BENCH.dueSign("fun f(): int = if 1 < 2 ^< 3 then 2 else 3 end");
        BENCH.dueSign("fun f(): int = if ^let x = 1 in x < 2 then 2 else 3 end");
        BENCH.dueSign("fun f(): int = if 1 < 2 then ^else 3 end");
        BENCH.dueSign("fun f(): int = if 1 < 2 then 2 ^end");
        BENCH.dueSign("fun f(): int = if 1 < 2 then 2 else ^end");
        BENCH.dueSign("fun f(): int = if 1 < 2 then 2 else 3^");
        BENCH.dueSign("fun f(): int = if 1 < 2 then 2 else 3 end ^+ 1");
        BENCH.dueSign("fun f(): int = 1 + ^if 1 < 2 then 2 else 3 end");
        BENCH.dueSign("fun f(): int = 1 + ^let x = 1 in x");
        BENCH.dueSign("fun f(): int = a ^:= 1");
        BENCH.dueSign("fun f(): int = (a[1]) ^:= 1");
        BENCH.dueSign("fun f(): int = 1 + a[1] ^:= 1");
        BENCH.dueSign("fun f(): int = a[1] + 1 ^:= 1");
        BENCH.dueSign("fun f(): int = out a[1] ^:= 1");
        BENCH.dueSign("fun f(): int = a[1] := ^");
        BENCH.dueSign("fun f(): int = a[a[1] ^:= 1]");
        BENCH.dueSign("fun f(): int = if a[1] ^:= 1 < 2 then 1 else 2 end");
    }

    private static void parts() {
        BENCH.fresh();
        BENCH.dueSign("fun f(): int = 1 +^");
        BENCH.dueSign("fun f(): int = ^- 1");
        BENCH.dueSign("fun f(): int = 1 * ^/ 2");
        BENCH.dueSign("fun f(): int = 1 / ^0");
        BENCH.dueSign("fun f(): int = 1 / ^000");
        BENCH.dueSign("fun f(): int = 1 / ^x");
        BENCH.dueSign("fun f(): int = 1 / ^(2)");
        BENCH.dueSign("fun f(): int = 1 / ^1000");
        BENCH.dueSign("fun f(): int = a[^]");
        BENCH.dueSign("fun f(): int = a[1^; 2]");
        BENCH.dueSign("fun f(): int = a[^let x = 1 in x]");
        BENCH.dueSign("fun f(): int = a[1^");
        BENCH.dueSign("fun f(): int = a[1]^[2]");
        BENCH.dueSign("fun f(): int = len ^1");
        BENCH.dueSign("fun f(): int = len ^(a)");
        BENCH.dueSign("fun f(): int = len a^[1]");
        BENCH.dueSign("fun f(): int = new ^");
        BENCH.dueSign("fun f(): int = new ^- 1");
        BENCH.dueSign("fun f(): int = out ^let x = 1 in x");
        BENCH.dueSign("fun f(): int = (^)");
        BENCH.dueSign("fun f(): int = (1^");
        BENCH.dueSign("fun f(): int = (1 : ^)");
        BENCH.dueSign("fun f(): int = (1 : int^");
        BENCH.dueSign("fun f(): int = (1 : int^: int)");
        BENCH.dueSign("fun f(): int = 1 ^: int");
        BENCH.dueSign("fun f(): int = g{^}()");
        BENCH.dueSign("fun f(): int = g{1^");
        BENCH.dueSign("fun f(): int = g{1} ^+ 1");
        BENCH.dueSign("fun f(): int = g{1}^[1]");
        BENCH.dueSign("fun f(): int = g{^(1)}()");
        BENCH.dueSign("fun f(): int = g(^");
        BENCH.dueSign("fun f(): int = g(1,^)");
        BENCH.dueSign("fun f(): int = g(^,1)");
        BENCH.dueSign("fun f(): int = g()^()");
        BENCH.dueSign("fun f(): int = 1^(2)");
    }

    private static void lists() {
        BENCH.fresh();
        BENCH.dueSign("fun f(): int = g{1, 2, 3, 4^, 5}()");
        BENCH.dueSign("fun f(): int = g(1, 2, 3, 4, 5^, 6)");
        BENCH.dueDefined("fun f(): int = g{1, 2, 3, 4}(1, 2, 3, 4, 5)");
        BENCH.dueDefined("fun g(a: int, b: int, c: int, d: int, e: int): int = 1");
    }

    private static void depth() {
        BENCH.fresh();
        BENCH.dueDefined("fun a(): int = " + "(".repeat(11) + "1" + ")".repeat(11));
        BENCH.dueSign("fun f(): int = " + "(".repeat(12) + "^1" + ")".repeat(12));
        BENCH.dueSign("fun f(): int = " + "(".repeat(12) + "^");
        BENCH.dueSign("fun f(): int = " + "(".repeat(12) + "  ^(1)" + ")".repeat(12));
        BENCH.dueDefined("fun b(): int = " + "out ".repeat(11) + "1");
        BENCH.dueSign("fun f(): int = " + "out ".repeat(12) + "^1");
        BENCH.dueDefined("fun c(): row(1) = " + "new ".repeat(11) + "1");
        BENCH.dueSign("fun f(): row(1) = " + "new ".repeat(12) + "^1");
        BENCH.dueDefined("fun d(a: row(1)): int = " + "a[".repeat(11) + "1" + "]".repeat(11));
        BENCH.dueSign("fun f(a: row(1)): int = " + "a[".repeat(12) + "^1" + "]".repeat(12));
        BENCH.dueDefined("fun e(a: row(1)): int = " + "a[1] := ".repeat(11) + "1");
        BENCH.dueSign("fun f(a: row(1)): int = " + "a[1] := ".repeat(11) + "a[^1] := 1");
        BENCH.dueDefined("fun g(): int = " + "let x = 1 in ".repeat(11) + "1");
        BENCH.dueSign("fun f(): int = " + "let x = 1 in ".repeat(11) + "let x = ^1 in 1");
    }

    private static void depthOfEachThing() {
        String eleven = "(".repeat(11);
        String back = ")".repeat(11);
        BENCH.fresh();
        BENCH.dueDefined("fun a(): int = " + eleven + "f{1, 2*n}() + len a * 2 / 3; 4" + back);
        BENCH.dueDefined("fun b(): int = (" + "(".repeat(10) + "1" + " : int{i | 1 < i + n})" + ")".repeat(10));
        BENCH.dueSign("fun f(): int = (" + eleven + "^let x = 1 in 1" + back + ")");
        BENCH.dueSign("fun f(): int = (" + eleven + "^if 1 < 2 then 1 else 2 end" + back + ")");
        BENCH.dueSign("fun f(): int = (" + eleven + "^a[0] := 1" + back + ")");
        BENCH.dueSign("fun f(): int = " + eleven + "let x = ^let y = 1 in 1 in 1" + back);
        BENCH.dueSign("fun f(): int = " + eleven + "f(^1)" + back);
        BENCH.dueSign("fun f(): int = " + eleven + "a[^1]" + back);
        BENCH.dueSign("fun f(): int = " + eleven + "new ^1" + back);
        BENCH.dueSign("fun f(): int = " + eleven + "let x = ^1 in 1" + back);
        BENCH.dueSign("fun f(): int = " + eleven + "if 1 < 2 then ^1 else 2 end" + back);
        BENCH.dueSign("fun f(): int = " + eleven + "if (^1) < 2 then 1 else 2 end" + back);
        String ten = "(".repeat(10);
        BENCH.dueSign("fun f(): int = " + ten + "if 1 < 2 then 1 else (^1) end" + ")".repeat(10));
        BENCH.dueSign("fun f(): int = " + ten + "let x = 1 in (^1)" + ")".repeat(10));
        BENCH.dueSign("fun f(): int = " + ten + "a[1] := (^1)" + ")".repeat(10));
        BENCH.dueSign("fun f(): int = " + ten + "f((^1), 2)" + ")".repeat(10));
        BENCH.dueSign("fun f(): int = " + ten + "f(1, (^2))" + ")".repeat(10));
        BENCH.dueSign("fun f(): int = " + ten + "a[(^1)] := 1" + ")".repeat(10));
        BENCH.dueDefined("fun c(): int = " + ten + "if 1 < (2) then 1 else 2 end; (3)" + ")".repeat(10));
    }

    private static void same() {
        BENCH.fresh();
        BENCH.dueDefined("fun f(): int = 1");
        BENCH.dueRefused("fun f(): int = 1", IndexedCompiler.SAME, 4);
        BENCH.dueRefused("  fun  f (): int = 2", IndexedCompiler.SAME, 7);
        BENCH.dueRefused("fun g{n, m, n}(): int = 1", IndexedCompiler.SAME, 12);
        BENCH.dueRefused("fun g{n, n, n}(): int = 1", IndexedCompiler.SAME, 9);
        BENCH.dueRefused("fun g{n}(x: int, n: int): int = 1", IndexedCompiler.SAME, 17);
        BENCH.dueRefused("fun g(x: int, y: int, x: int): int = 1", IndexedCompiler.SAME, 22);
        BENCH.dueRefused("fun f{n, n}(): int = 1", IndexedCompiler.SAME, 9);
        BENCH.dueRefused("fun f(x: int, x: int): int = 1", IndexedCompiler.SAME, 14);
        BENCH.dueSign("fun f(x: int, x: int): int = 1^)");
        BENCH.due("only one is there", BENCH.c.count(0), 1);
        BENCH.dueDefined("fun ff(f: int, ff: int): int{f | f < ff} = let f = 1 in let f = 2 in f");
        BENCH.dueDefined("fun g{n}(x: int{n | n < 3}, y: int{x | x > 1}): int = 1");
    }

    private static void full() {
        BENCH.fresh();
        for (int k = 0; k < 8; k++) {
            BENCH.dueDefined("fun f" + (char) ('a' + k) + "(): int = " + k);
        }
        BENCH.dueRefused("fun g(): int = 1", IndexedCompiler.FULL, IndexedCompiler.NONE);
        BENCH.dueRefused("fun fa(): int = 1", IndexedCompiler.SAME, 4);
        BENCH.dueSign("fun g(): int = 1 ^2");
        BENCH.due("eight", BENCH.c.count(0), 8);
        BENCH.due("the eight are as they were", BENCH.c.check(), 1);
        for (int k = 0; k < 8; k++) {
            BENCH.due("run", BENCH.c.run(k, 0, 10), 1);
            BENCH.due("answer", BENCH.c.told(1), k);
        }
    }

    private static void clear() {
        BENCH.functions("fun f(): int = 1", "fun g(): int = 2");
        IndexedCompiler c = BENCH.c;
        BENCH.due("check", c.check(), 1);
        BENCH.due("clear", c.clear(), 2);
        BENCH.due("clear again", c.clear(), 0);
        BENCH.due("none", c.count(0), 0);
        BENCH.dueThrow("no code", Bench.STATE, () -> c.code(0, 0, 0));
        BENCH.dueThrow("no run", Bench.STATE, () -> c.run(0, 0, 1));
        BENCH.due("the line stays", c.type(0, 0, 0, 0, 0), 16);
        BENCH.due("its name is free again", c.define(), 0);
        BENCH.due("check of it", c.check(), 1);
        BENCH.due("run of it", c.run(0, 0, 5), 1);
        BENCH.due("answer of it", c.told(1), 2);
        BENCH.dueThrow("one function alone", Bench.STATE, () -> c.run(1, 0, 5));
    }

    /** A define that fails leaves what is checked; one that does not, takes it away. */
    private static void whatDefineLeaves() {
        BENCH.functions("fun f(a: row(2)): int = a[1]");
        IndexedCompiler c = BENCH.c;
        BENCH.due("check", c.check(), 1);
        BENCH.dueSign("fun g(): int =^");
        BENCH.dueRefused("fun f(): int = 1", IndexedCompiler.SAME, 4);
        BENCH.dueSign("fun h(x: int(y)): int(z) = 1^)");
        BENCH.due("what was refused is not checked", c.check(), 1);
        BENCH.due("goals", c.count(1), 2);
        BENCH.due("accesses", c.count(3) * 10 + c.count(4), 11);
        BENCH.due("code", c.code(0, 1, 4), 11);
        BENCH.dueDefined("fun g(): int = 1");
        for (int k = 1; k <= 4; k++) {
            BENCH.due("count " + k, c.count(k), 0);
        }
        BENCH.due("count 5", c.count(5), IndexedCompiler.NONE);
        BENCH.dueThrow("goal", Bench.STATE, () -> c.goal(0, 0));
        BENCH.dueThrow("code", Bench.STATE, () -> c.code(0, 0, 0));
        BENCH.dueThrow("run", Bench.STATE, () -> c.run(0, 0, 1));
        BENCH.due("check of both", c.check(), 1);
        BENCH.due("code again", c.code(1, 1, 1), 1);
        BENCH.dueDefined("fun k(): int = h()");
        BENCH.dueSign("fun h(): int = 1^)");
        BENCH.due("what was refused cannot be called", c.check(), IndexedCompiler.NAME);
        BENCH.due("place", c.place(), 15);
    }
}
