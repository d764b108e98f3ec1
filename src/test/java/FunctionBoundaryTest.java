/** Boundaries of FUNCTIONS: promises 4, 5 and 7, and what 'Terms' says of FUNCTION, depth, SIGN and SAME. */
public final class FunctionBoundaryTest {
    private static final int SIGN = IndexedCompiler.SIGN;
    private static final int SAME = IndexedCompiler.SAME;
    private static final int FULL = IndexedCompiler.FULL;
    private static final int NONE = IndexedCompiler.NONE;
    private static final Bench BENCH = new Bench("FunctionBoundaryTest");

    public static void main(String[] args) {
        indexNames();
        propsMayBeLeftOut();
        parameters();
        types();
        propsOneToFour();
        relations();
        indexes();
        stepsOneOrMore();
        letGoesAsFarAsItCan();
        choices();
        changes();
        divisors();
        indexesOfCalls();
        stepsOfCalls();
        parts();
        deepThings();
        deepThingsBehindOthers();
        whatIsNotDeeper();
        typesAndIndexesDoNotCount();
        whatIsTooDeepAndWrong();
        signAtTheEnd();
        signGoesByPlace();
        sameAmongNames();
        sameFunction();
        sameBehindSign();
        fullBehindThese();
        numbersFrom0On();
        nothingIsCheckedAnyMore();
        whatIsRefusedLeavesWhatIsChecked();
        whatIsRefusedIsNotThere();
        whatWasThereBefore();
        clearTellsHowMany();
        placeOfTheLast();
        BENCH.end();
    }

    private static void indexNames() {
        BENCH.sentence("{ INDEX NAMES }: one to four NAMES with , between");
        BENCH.dueFunctions("fun f(): int = 1", "fun f{n}(): int = 1", "fun f{n, m}(): int = 1", "fun f{n, m, p}(): int = 1",
            "fun f{n, m, p, q}(): int = 1");
        BENCH.dueSigns("fun f{^}(): int = 1", "fun f{n, m, p, q^, r}(): int = 1", "fun f{n, m, p, q ^r}(): int = 1",
            "fun f{^, n}(): int = 1", "fun f{n, ^, m}(): int = 1", "fun f{n, ^}(): int = 1", "fun f{n, m, p, q^,}(): int = 1",
            "fun f{n^; m}(): int = 1", "fun f{^1}(): int = 1", "fun f{n^(): int = 1", "fun f{n}^{m}(): int = 1");
    }

    private static void propsMayBeLeftOut() {
        BENCH.sentence("| and PROPS may both be left out");
        BENCH.dueFunctions("fun f{n}(): int = 1", "fun f{n | n < 1}(): int = 1", "fun f{n, m, p, q | 1 < 2}(): int = 1");
        BENCH.dueSigns("fun f{n |^}(): int = 1", "fun f{n ^n < 1}(): int = 1", "fun f{^| 1 < 2}(): int = 1",
            "fun f{n | 1 < 2 ^| 1 < 2}(): int = 1",
            "fun f{n, ^| 1 < 2}(): int = 1");
    }

    private static void parameters() {
        BENCH.sentence("( up to five PARAMETERS with , between )");
        BENCH.dueFunctions("fun f(): int = 1", "fun f(a: int): int = 1", "fun f(a: int, b: int, c: int, d: int): int = 1",
            "fun f(a: int, b: int, c: int, d: int, e: int): int = 1");
        BENCH.dueSigns("fun f(a: int, b: int, c: int, d: int, e: int^, g: int): int = 1",
            "fun f(a: int, b: int, c: int, d: int, e: int^,): int = 1",
            "fun f(a: int, b: int, c: int, d: int, e: int ^g: int): int = 1",
            "fun f(^,): int = 1", "fun f(a: int, ^): int = 1", "fun f(a: int,^, b: int): int = 1", "fun f(a^): int = 1",
            "fun f(a ^int): int = 1",
            "fun f^: int = 1", "fun f{n}^: int = 1", "fun f()^(): int = 1");
    }

    private static void types() {
        BENCH.sentence("TYPE: int, or int ( INDEX ), or int { NAME | PROPS }, or row ( INDEX )");
        BENCH.dueFunctions("fun f(a: int): int = 1", "fun f(a: int(1)): int(1) = 1",
            "fun f(a: int{i | i < 1}): int{i | i < 1} = 1",
            "fun f(a: row(1)): row(1) = 1");
        BENCH.dueSigns("fun f(a: ^): int = 1", "fun f(a: row^): int = 1", "fun f(a: row^{i | i < 1}): int = 1",
            "fun f(a: int(^)): int = 1",
            "fun f(a: row(^)): int = 1", "fun f(a: int{^}): int = 1", "fun f(a: int{i^}): int = 1",
            "fun f(a: int{i |^}): int = 1",
            "fun f(a: int{^| 1 < 2}): int = 1", "fun f(a: int{i^, j | 1 < 2}): int = 1", "fun f(a: int(1^, 2)): int = 1",
            "fun f(a: ^x): int = 1", "fun f(a: ^1): int = 1", "fun f(a: ^len): int = 1", "fun f(a: int(1)^(1)): int = 1",
            "fun f(a: int^[1]): int = 1",
            "fun f() ^= 1", "fun f(): ^= 1", "fun f(): int ^:= 1", "fun f(): int ^1", "fun f(): int ^: int = 1");
    }

    private static void propsOneToFour() {
        BENCH.sentence("PROPS: one to four with & between");
        for (int many = 1; many <= 4; many++) {
            String props = "n<1" + "&n<1".repeat(many - 1);
            BENCH.dueFunctions("fun f{n|" + props + "}(): int = 1", "fun f(x: int{n|" + props + "}): int = 1",
                "fun f(): int = (1 : int{n|" + props + "})");
        }
        BENCH.dueSigns("fun f{n|n<1&n<1&n<1&n<1^&n<1}(): int = 1", "fun f(x: int{n|n<1&n<1&n<1&n<1^&n<1}): int = 1",
            "fun f(): int{n|n<1&n<1&n<1&n<1^&n<1} = 1", "fun f{n|n<1&^}(): int = 1", "fun f{n|^&n<1}(): int = 1",
            "fun f{n|n<1&^&n<1}(): int = 1",
            "fun f{n|n<1^,n<1}(): int = 1", "fun f{n|n<1 ^n<1}(): int = 1");
    }

    private static void relations() {
        BENCH.sentence("each an INDEX, a RELATION, an INDEX; RELATION: < <= = >= >");
        for (String r : Bench.RELATIONS) {
            BENCH.dueFunctions("fun f{n | n " + r + " 1}(): int = 1", "fun f(x: int{i | 1 " + r + " i}): int = 1",
                "fun f(): int = if 1 " + r + " 2 then 3 else 4 end");
            BENCH.dueSigns("fun f{n | n " + r + "^}(): int = 1", "fun f{n | ^" + r + " n}(): int = 1",
                "fun f{n | n " + r + " 1 ^" + r + " 2}(): int = 1", "fun f(): int = if 1 " + r + " ^then 3 else 4 end",
                "fun f(): int = if 1 " + r + " 2 ^" + r + " 3 then 3 else 4 end", "fun f(): int = 1 ^" + r + " 2");
        }
        BENCH.dueSigns("fun f{n | n^}(): int = 1", "fun f{n | n^:=1}(): int = 1", "fun f(): int = if 1 ^then 3 else 4 end");
    }

    private static void indexes() {
        BENCH.sentence("INDEX: TERMS with + or - between; TERM: a NUMBER, a NAME, or NUMBER * NAME");
        BENCH.dueFunctions("fun f{n}(): int(1) = 1", "fun f{n}(): int(n) = 1", "fun f{n}(): int(2*n) = 1",
            "fun f{n}(): int(0*n) = 1",
            "fun f{n}(): int(1+n-2*n+3-4) = 1", "fun f{n}(): int(n" + "+n".repeat(220) + ") = 1");
        BENCH.dueSigns("fun f{n}(): int(^-1) = 1", "fun f{n}(): int(^+n) = 1", "fun f{n}(): int(1+^) = 1",
            "fun f{n}(): int(1+^-1) = 1",
            "fun f{n}(): int(1 ^1) = 1", "fun f{n}(): int(n ^n) = 1", "fun f{n}(): int(2 ^n) = 1", "fun f{n}(): int(n^*2) = 1",
            "fun f{n}(): int(2*^3) = 1", "fun f{n}(): int(2*^) = 1", "fun f{n}(): int(2*n^*n) = 1", "fun f{n}(): int(^*n) = 1",
            "fun f{n}(): int(n^/2) = 1", "fun f{n}(): int(^(n)) = 1", "fun f{n}(): int(^len n) = 1", "fun f{n}(): int(n^[1]) = 1",
            "fun f{n}(): int(n^() ) = 1");
    }

    private static void stepsOneOrMore() {
        BENCH.sentence("STEPS: one or more STEPS with ; between");
        BENCH.dueFunctions("fun f(): int = 1", "fun f(): int = 1;2", "fun f(): int = 1" + ";1".repeat(232));
        BENCH.dueSigns("fun f(): int =^", "fun f(): int = ^;1", "fun f(): int = 1;^", "fun f(): int = 1;^;1",
            "fun f(): int = 1 ^2",
            "fun f(): int = 1^,2", "fun f(): int = (1;^)", "fun f(): int = (^)", "fun f(): int = if 1<2 then ^else 1 end",
            "fun f(): int = if 1<2 then 1 else ^end", "fun f(): int = let x = 1 in ^", "fun f(): int = let x = 1^;2 in 3");
    }

    /** The answer tells how far the STEPS behind in go: x is there, or it is not. */
    private static void letGoesAsFarAsItCan() {
        BENCH.sentence("let NAME = STEP in STEPS (as far as they go)");
        BENCH.dueCheck(1, "fun f(): int = let x = 1 in 2; x");
        BENCH.dueCheck(1, "fun f(): int = let x = let y = 1 in 2; y in x; x");
        BENCH.dueCheck(1, "fun f(a: row(1)): int = a[0] := let x = 1 in 2; x");
        BENCH.dueCheck(1, "fun f(): int = if 1 < 2 then let x = 1 in 2; x else 3 end");
        BENCH.dueFault(IndexedCompiler.NAME, 0, "fun f(): int = (let x = 1 in 2); ^x");
        BENCH.dueFault(IndexedCompiler.NAME, 0, "fun f(): int = if 1 < 2 then let x = 1 in 2 else 3 end; ^x");
        BENCH.dueSigns("fun f(): int = let ^1 = 1 in 1", "fun f(): int = let x ^1 in 1", "fun f(): int = let x = 1 ^1",
            "fun f(): int = let x = ^in 1",
            "fun f(): int = let x = 1 in 2 ^in 3", "fun f(): int = 1 + ^let x = 1 in 2", "fun f(): int = let x = 1 in 2 ^end");
    }

    private static void choices() {
        BENCH.sentence("if SUM RELATION SUM then STEPS else STEPS end");
        BENCH.dueFunctions("fun f(): int = if 1+2*3 < 4-5/6 then 1; 2 else 3; 4 end; 5");
        BENCH.dueSigns("fun f(): int = if ^< 2 then 1 else 2 end", "fun f(): int = if 1 < 2 ^1",
            "fun f(): int = if 1 < 2 then 1 ^end",
            "fun f(): int = if 1 < 2 then 1 else 2^", "fun f(): int = if 1 < 2 then 1 else 2 ^else 3 end",
            "fun f(): int = if 1^; 2 < 3 then 1 else 2 end",
            "fun f(): int = if ^if 1 < 2 then 1 else 2 end < 3 then 1 else 2 end",
            "fun f(): int = if 1 < 2 then 1 else 2 end ^+ 1",
            "fun f(): int = 1 + ^if 1 < 2 then 1 else 2 end", "fun f(): int = if 1 < 2 then 1 else 2 end ^end");
    }

    private static void changes() {
        BENCH.sentence("NAME [ SUM ] := STEP");
        BENCH.dueFunctions("fun f(a: row(1)): int = a[0] := 1", "fun f(a: row(1)): int = a[0] := a[0] := a[0]",
            "fun f(a: row(1)): int = a[0] := if 1 < 2 then 1 else 2 end; 3",
            "fun f(a: row(1)): int = a[1 + 2 * 3] := let x = 1 in x");
        BENCH.dueSigns("fun f(a: row(1)): int = a ^:= 1", "fun f(a: row(1)): int = (a[0]) ^:= 1",
            "fun f(a: row(1)): int = a[0] + a[0] ^:= 1",
            "fun f(a: row(1)): int = a[0] * 2 ^:= 1", "fun f(a: row(1)): int = out a[0] ^:= 1",
            "fun f(a: row(1)): int = a() ^:= 1",
            "fun f(a: row(1)): int = len a ^:= 1", "fun f(a: row(1)): int = 1 ^:= 1", "fun f(a: row(1)): int = a[0] := ^",
            "fun f(a: row(1)): int = a[0] := ^; 1", "fun f(a: row(1)): int = a[^] := 1", "fun f(a: row(1)): int = a[0^; 0] := 1",
            "fun f(a: row(1)): int = a[0 ^:= 1", "fun f(a: row(1)): int = a[a[0] ^:= 1]",
            "fun f(a: row(1)): int = let a^[0] := 1 in 1");
    }

    private static void divisors() {
        BENCH.sentence("/ and a NUMBER that is not 0 instead of a PART");
        BENCH.dueFunctions("fun f(): int = 1/1", "fun f(): int = 1/001", "fun f(): int = 1/999", "fun f(): int = 1/2/3*4/5");
        BENCH.dueSigns("fun f(): int = 1/^0", "fun f(): int = 1/^00", "fun f(): int = 1/^000", "fun f(): int = 1/2/^0",
            "fun f(): int = 1/^x",
            "fun f(): int = 1/^(1)", "fun f(): int = 1/^", "fun f(): int = 1/^/1", "fun f(): int = 1*^/1",
            "fun f(): int = 1/2*^", "fun f(): int = ^/1");
        BENCH.dueFunctions("fun f(): int = 1*0");
    }

    private static void indexesOfCalls() {
        BENCH.sentence("CALL: NAME, perhaps { one to four INDEXES with , between }");
        BENCH.dueFunctions("fun f(): int = g()", "fun f(): int = g{1}()", "fun f(): int = g{1+n, 2*n-1}()",
            "fun f(): int = g{1,2,3,4}()");
        BENCH.dueSigns("fun f(): int = g{^}()", "fun f(): int = g{1,2,3,4^,5}()", "fun f(): int = g{1,^}()",
            "fun f(): int = g{1,2,3,4^,}()",
            "fun f(): int = g{^,1}()", "fun f(): int = g{1 ^2}()", "fun f(): int = g{1}^", "fun f(): int = g{1} ^+ 1",
            "fun f(): int = g{1}^{1}()",
            "fun f(): int = g{1^|1<2}()", "fun f(): int = g{^(1)}()", "fun f(): int = g{1^(1)");
    }

    private static void stepsOfCalls() {
        BENCH.sentence("CALL: ( up to five times STEPS, with , between )");
        BENCH.dueFunctions("fun f(): int = g()", "fun f(): int = g(1)", "fun f(): int = g(1;2, let x = 1 in 2; 3)",
            "fun f(): int = g(1,2,3,4,5)");
        BENCH.dueSigns("fun f(): int = g(1,2,3,4,5^,6)", "fun f(): int = g(1,2,3,4,5^,)", "fun f(): int = g(1,^)",
            "fun f(): int = g(^,1)",
            "fun f(): int = g(1,^,1)", "fun f(): int = g(1 ^2)", "fun f(): int = g(1;^)", "fun f(): int = g(1^",
            "fun f(): int = g(^",
            "fun f(): int = g(1 ^: int)");
    }

    private static void parts() {
        BENCH.sentence("PART: len NAME; new PART; out PART; ( STEPS ); ( STEPS : TYPE )");
        BENCH.dueFunctions("fun f(): int = len x", "fun f(): int = new 1", "fun f(): int = out new out x[0]",
            "fun f(): int = (1;2)",
            "fun f(): int = (1;2 : int)", "fun f(): int = (let x = 1 in x : row(1))");
        BENCH.dueSigns("fun f(): int = len ^1", "fun f(): int = len ^(x)", "fun f(): int = len ^len x",
            "fun f(): int = len x^[0]", "fun f(): int = len x^()",
            "fun f(): int = new ^", "fun f(): int = new ^+1", "fun f(): int = out ^let x = 1 in 1",
            "fun f(): int = out ^if 1 < 2 then 1 else 2 end",
            "fun f(): int = (1 : ^)", "fun f(): int = (1 : int^", "fun f(): int = (^: int)", "fun f(): int = (1 : ^1)",
            "fun f(): int = 1 ^: int",
            "fun f(): int = (1)^(1)", "fun f(): int = x[0]^[0]", "fun f(): int = x()^()", "fun f(): int = 1^[0]",
            "fun f(): int = ^)");
    }

    /** Things whose inside is one deeper, with its first character marked: ten round it make that 12, eleven 13. */
    private static void deepThings() {
        BENCH.sentence("nothing is more than 12 deep (SIGN at its first character)");
        String[] things = {
            "(^1)", "(  ^1)", "(^1 : int)", "f(^1)", "f{n}(^1)", "f(^1, 2)", "x[^1]", "x[^1] := 1", "let y = ^1 in 1",
            "if 1 < 2 then ^1 else 1 end",
            "new ^1", "out ^1", "1 + (^1)", "2 * f(^1)", "1; new  ^1", "len x + x[ ^1]", "(^len x)", "x[^f()]"
        };
        for (String thing : things) {
            BENCH.dueFunctions("fun f(): int = " + round(10, thing.replace("^", "")));
            BENCH.dueSigns("fun f(): int = " + round(11, thing));
        }
        String[] deeperThings = {
            "(^let y = 1 in 1)", "(^if 1 < 2 then 1 else 1 end)", "(^x[0] := 1)", "(^new 1)", "new ^out 1", "new ^(1)",
            "let y = ^let z = 1 in 1 in 1"
        };
        for (String thing : deeperThings) {
            BENCH.dueFunctions("fun f(): int = " + round(9, thing.replace("^", "")));
            BENCH.dueSigns("fun f(): int = " + round(11, thing));
        }
    }

    private static String round(int many, String thing) {
        return "(".repeat(many) + thing + ")".repeat(many);
    }

    /** Behind a first thing that is as deep: ten round it make it 12, and what is in its ( ) 13. */
    private static void deepThingsBehindOthers() {
        BENCH.sentence("behind the = and in of a let, then, else, :=, and of each of a CALL's STEPS");
        String[] things = {
            "let y = 1 in (^1)", "let y = 1 in 1; (^1)", "let y = (^1) in 1", "if 1 < 2 then (^1) else 1 end",
            "if 1 < 2 then 1 else (^1) end",
            "if 1 < 2 then 1 else 1; x[^1] end", "x[1] := (^1)", "x[(^1)] := 1", "f(1, (^1))", "f(1, 2, 3, 4, 5 + new ^1)",
            "f(1; (^1))", "new out ^1",
            "out (^1)", "(1; out ^1)", "((^1) : int)", "x[x[^1]]", "x[1] := x[^1]"
        };
        for (String thing : things) {
            BENCH.dueSigns("fun f(): int = " + round(10, thing));
            BENCH.dueFunctions("fun f(): int = " + round(9, thing).replace("^", ""));
        }
        BENCH.dueFunctions("fun f(): int = " + "x[1] := ".repeat(11) + "1", "fun f(): int = " + "let x = 1 in ".repeat(11) + "1",
            "fun f(): int = " + "out ".repeat(11) + "1", "fun f(): int = " + "if 1<2 then ".repeat(11) + "1"
            + " else 1 end".repeat(11),
            "fun f(): int = " + "if 1<2 then 1 else ".repeat(11) + "1" + " end".repeat(11), "fun f(): int = "
            + "let x = ".repeat(11) + "1" + " in 1".repeat(11));
        BENCH.dueSigns("fun f(): int = " + "x[1] := ".repeat(11) + "x[^1] := 1", "fun f(): int = " + "let x = 1 in ".repeat(11)
            + "let x = ^1 in 1",
            "fun f(): int = " + "out ".repeat(12) + "^1", "fun f(): int = " + "if 1<2 then ".repeat(12) + "^1"
            + " else 1 end".repeat(12),
            "fun f(): int = " + "if 1<2 then 1 else ".repeat(11) + "if 1<2 then ^1 else 1 end" + " end".repeat(11),
            "fun f(): int = " + "let x = ".repeat(12) + "^1" + " in 1".repeat(12));
    }

    private static void whatIsNotDeeper() {
        BENCH.sentence("the function's own STEPS are 1 deep; what is not told there is not deeper");
        BENCH.dueFunctions("fun f(): int = " + round(11, "1; 2; 3"), "fun f(): int = " + round(11, "1 + 2 * 3 / 4 - x"),
            "fun f(): int = " + round(11, "len x"),
            "fun f(): int = " + round(11, "f()"), "fun f(): int = " + round(11, "f{n, 2*n}()"), "fun f(): int = " + round(10,
            "if x[1] < (2) then 1 else 2 end; (1); x[1]"),
            "fun f(): int = " + round(10, "(1) + (1) * (1) - new 1 + out 1"));
        BENCH.dueSigns("fun f(): int = " + round(11, "if x[^1] < 2 then 1 else 2 end"), "fun f(): int = " + round(11,
            "if 1 < (^2) then 1 else 2 end"));
    }

    private static void typesAndIndexesDoNotCount() {
        BENCH.sentence("(TYPES and INDEXES do not count)");
        BENCH.dueFunctions("fun f(): int = " + round(10, "(1 : int(2*n))"), "fun f(): int = " + round(10,
            "(1 : int{i | i < 1 & 2 > n})"),
            "fun f(): int = " + round(10, "(1 : row(n - 1))"), "fun f(): int = " + round(11, "f{1, n - 2}()"));
        BENCH.dueSigns("fun f(): int = " + round(11, "(^1 : int(1))"));
    }

    private static void whatIsTooDeepAndWrong() {
        BENCH.sentence("SIGN at the first character, whatever stands there");
        BENCH.dueSigns("fun f(): int = " + "(".repeat(12) + "^", "fun f(): int = " + "(".repeat(12) + "  ^", "fun f(): int = "
            + "(".repeat(12) + "^)",
            "fun f(): int = " + "(".repeat(12) + " ^?", "fun f(): int = " + "(".repeat(12) + "^(" + "(", "fun f(): int = "
            + "(".repeat(11) + "^)");
    }

    private static void signAtTheEnd() {
        BENCH.sentence("SIGN: its length if it ends too soon");
        String whole = "fun f{n|n<1}(a:row(n),x:int{i|i>2*n}):int(1)=let y=a[x]in if y<x then a[0]:=f{1}(a,(1;2:int))else len a/2 end";
        for (int many = 0; many < whole.length(); many++) {
            String cut = whole.substring(0, many);
            // A WORD or SIGN that is cut is another one, which cannot be there.
            boolean isCut = many > 0 && (isLetter(whole.charAt(many - 1)) && isLetter(whole.charAt(many))
                || whole.startsWith(":=", many - 1));
            if (!isCut) {
                BENCH.dueSigns(cut + "^", cut + "   ^");
            }
        }
        BENCH.dueFunctions(whole, whole + "   ");
        BENCH.dueSigns(whole + "^)", whole + " ^1", whole + "^,", whole + " ^end");
    }

    private static boolean isLetter(char sign) {
        return sign >= 'a' && sign <= 'z';
    }

    private static void signGoesByPlace() {
        BENCH.sentence("SIGN: the first that cannot be there, from the left");
        BENCH.dueSigns("fun f(): int = ^abcdefg + 1000", "fun f(): int = ^1000 + abcdefg", "fun f(): int = 1 ^? 1000",
            "^fum f(: int = 1000", "fun f(): int = ^) ) 1");
        BENCH.dueSigns("fun f(): int = 1 / ^0 + 1 / 0", "fun f(x: int, x: int): int = ^");
    }

    private static void dueSame(String marked) {
        int place = marked.indexOf('^');
        BENCH.dueRefused(marked.substring(0, place) + marked.substring(place + 1), SAME, place);
    }

    private static void sameAmongNames() {
        BENCH.sentence("SAME: an INDEX NAME or PARAMETER whose NAME is one of these already (at the first one, from the left)");
        dueSame("fun f{n, ^n}(): int = 1");
        dueSame("fun f{n, m, p, ^m}(): int = 1");
        dueSame("fun f{n, ^n, n}(): int = 1");
        dueSame("fun f{n, m, ^n, m}(): int = 1");
        dueSame("fun f{n}(^n: int): int = 1");
        dueSame("fun f{n}(x: int, ^n: int, x: int): int = 1");
        dueSame("fun f(x: int, ^x: int): int = 1");
        dueSame("fun f(a: int, b: int, c: int, d: int, ^a: int): int = 1");
        dueSame("fun f{n, ^n}(x: int, x: int): int = 1");
        BENCH.due("none of them is there", BENCH.c.count(0), 0);
        BENCH.dueFunctions("fun f{n, m}(x: int, y: int): int = 1", "fun f{f}(x: int): int = 1", "fun f(f: int): int = 1",
            "fun f{n}(x: int{n | n < 1}): int{x | x < 1} = let n = 1 in let x = 1 in let x = 2 in 1",
            "fun f(a: int, aa: int): int = 1");
    }

    private static void sameFunction() {
        BENCH.sentence("SAME: else, a function of that NAME is there (at its NAME)");
        BENCH.dueDefined("fun f(): int = 1");
        BENCH.dueDefined("fun g(): int = 1");
        dueSame("fun ^f(): int = 2");
        dueSame("  fun   ^g{n}(x: row(n)): int = 2");
        dueSame("fun f{n, ^n}(): int = 2");
        dueSame("fun g(x: int, ^x: int): int = 2");
        BENCH.due("two", BENCH.c.count(0), 2);
        BENCH.dueDefined("fun ff(): int = 1");
        BENCH.c.clear();
        BENCH.dueDefined("fun g(): int = 1");
        dueSame("fun ^g(): int = 1");
        BENCH.dueDefined("fun f(): int = 1");
        dueSame("fun ^f(): int = 1");
    }

    private static void sameBehindSign() {
        BENCH.sentence("SAME, if there is no SIGN");
        BENCH.dueDefined("fun f(): int = 1");
        BENCH.dueSign("fun f(): int = ^");
        BENCH.dueSign("fun f{n, n}(): int = 1 ^1");
        BENCH.dueSign("fun g(x: int, x: int): int = ^1000");
    }

    private static void fullBehindThese() {
        BENCH.sentence("FULL, behind these: there are 8");
        for (int k = 0; k < 7; k++) {
            BENCH.dueDefined("fun f" + (char) ('a' + k) + "(): int = 1");
        }
        BENCH.due("seven", BENCH.c.count(0), 7);
        BENCH.dueDefined("fun fh(): int = 1");
        BENCH.due("eight", BENCH.c.count(0), 8);
        BENCH.dueRefused("fun fi(): int = 1", FULL, NONE);
        dueSame("fun ^fh(): int = 1");
        dueSame("fun fi{n, ^n}(): int = 1");
        BENCH.dueSign("fun fi(): int = ^");
        BENCH.dueRefused("fun fi(): int = 1", FULL, NONE);
        BENCH.due("still eight", BENCH.c.count(0), 8);
        BENCH.due("check", BENCH.c.check(), 1);
        BENCH.dueRefused("fun fi(): int = x", FULL, NONE);
        BENCH.due("still checked", BENCH.c.code(7, 0, 0), 0);
        BENCH.due("clear", BENCH.c.clear(), 8);
        BENCH.dueDefined("fun fi(): int = 1");
    }

    private static void numbersFrom0On() {
        IndexedCompiler c = BENCH.sentence("define: its number, from 0 on");
        for (int k = 0; k < 8; k++) {
            BENCH.due("refused", BENCH.define("fun f(): int ="), SIGN);
            BENCH.due("number", BENCH.define("fun f" + (char) ('a' + k) + "(): int = " + k), k);
            BENCH.due("how many", c.count(0), k + 1);
        }
        c.clear();
        BENCH.due("from 0 on again", BENCH.define("fun g(): int = 9"), 0);
        c.check();
        c.run(0, 0, 9);
        BENCH.due("it is the new one", c.told(1), 9);
    }

    private static void nothingIsCheckedAnyMore() {
        BENCH.sentence("define: and nothing is checked any more");
        BENCH.dueCheck(1, "fun f(a: row(1)): int = a[0]");
        IndexedCompiler c = BENCH.c;
        BENCH.due("goals", c.count(1), 2);
        BENCH.dueDefined("fun g(): int = 1");
        for (int what = 1; what <= 4; what++) {
            BENCH.due("count " + what, c.count(what), 0);
        }
        BENCH.dueThrow("goal", Bench.STATE, () -> c.goal(0, 0));
        BENCH.dueThrow("code", Bench.STATE, () -> c.code(0, 0, 0));
        BENCH.dueThrow("run", Bench.STATE, () -> c.run(0, 0, 1));
        BENCH.dueFault(IndexedCompiler.NAME, 0, "fun f(): int = ^x");
        BENCH.dueDefined("fun x(): int = 1");
        BENCH.due("the function of the fault", BENCH.c.count(5), NONE);
        BENCH.due("its place", BENCH.c.place(), NONE);
    }

    private static void whatIsRefusedLeavesWhatIsChecked() {
        BENCH.sentence("define: or SIGN, SAME; FULL: THE LINE is no function then");
        BENCH.dueCheck(1, "fun f(a: row(1)): int = a[0]");
        BENCH.dueSign("fun g(): int = ^");
        dueSame("fun ^f(): int = 1");
        BENCH.due("goals", BENCH.c.count(1), 2);
        BENCH.due("goal", BENCH.c.goal(1, 2), 1);
        BENCH.due("code", BENCH.c.code(0, 1, 4), 11);
    }

    private static void whatIsRefusedIsNotThere() {
        BENCH.sentence("define: or SIGN, SAME; FULL: it cannot be checked, called or run");
        BENCH.dueDefined("fun f(): int = 1");
        BENCH.dueSign("fun h(x: int(y)): int(z) = p ^)");
        BENCH.due("it is not checked", BENCH.c.check(), 1);
        BENCH.dueThrow("it cannot be run", Bench.STATE, () -> BENCH.c.run(1, 0, 9));
        dueSame("fun ^f(x: int(y)): int = p");
        BENCH.due("check", BENCH.c.check(), 1);
        BENCH.dueDefined("fun g(): int = h()");
        BENCH.dueSign("fun h(): int = 1 ^)");
        BENCH.due("it cannot be called", BENCH.c.check(), IndexedCompiler.NAME);
        BENCH.due("place", BENCH.c.place(), 15);
        BENCH.dueDefined("fun h(): int = 1");
        BENCH.due("now it can", BENCH.c.check(), 1);
    }

    /** The function has nothing of a LINE that was refused, or of a function that is gone, in its place. */
    private static void dueAnew(boolean isRefused) {
        String before = "fun f{n, m | n < m & m > 5}(p: int(n), a: row(m)): row(m) = let x = 1 in ";
        String[] after = {"fun f(): int(1) = 1", "fun f(n: int, m: int): int(1) = 1", "fun f{p, a}(): int(1) = 1",
            "fun f{p}(n: int(p)): int(1) = 1"};
        int[] variables = {0, 2, 2, 1};
        for (int k = 0; k < after.length; k++) {
            BENCH.fresh();
            BENCH.due("define", BENCH.define(isRefused ? before : before + "a"), isRefused ? SIGN : 0);
            BENCH.c.clear();
            BENCH.dueDefined(after[k]);
            BENCH.due("check of " + after[k], BENCH.c.check(), 1);
            BENCH.due("variables", BENCH.c.goal(0, 5), variables[k]);
            BENCH.due("facts", BENCH.c.goal(0, 4), 0);
            BENCH.due("run", BENCH.c.run(0, 0, 9), 1);
            BENCH.due("answer", BENCH.c.told(1) * 10 + BENCH.c.told(7), 10);
            String call = k == 0 ? "f()" : k == 1 ? "f(1, 2)" : k == 2 ? "f{1, 2}()" : "f{1}(1)";
            BENCH.dueDefined("fun g(): int = " + call);
            BENCH.due("check of " + call, BENCH.c.check(), 1);
        }
    }

    private static void whatWasThereBefore() {
        BENCH.sentence("THE LINE is one more function: all of it, and nothing else");
        dueAnew(true);
        dueAnew(false);
    }

    private static void clearTellsHowMany() {
        IndexedCompiler c = BENCH.sentence("clear: all functions are gone, nothing is checked: how many there were");
        BENCH.due("of none", c.clear(), 0);
        BENCH.dueDefined("fun f(a: row(1)): int = a[0]");
        c.check();
        BENCH.due("of one", c.clear(), 1);
        BENCH.due("functions", c.count(0), 0);
        for (int what = 1; what <= 4; what++) {
            BENCH.due("count " + what, c.count(what), 0);
        }
        BENCH.due("count 5", c.count(5), NONE);
        BENCH.dueThrow("goal", Bench.STATE, () -> c.goal(0, 0));
        BENCH.dueThrow("code", Bench.STATE, () -> c.code(0, 0, 0));
        BENCH.dueThrow("run", Bench.STATE, () -> c.run(0, 0, 1));
        BENCH.due("of none again", c.clear(), 0);
        BENCH.due("nothing to check", c.check(), 1);
    }

    private static void placeOfTheLast() {
        IndexedCompiler c = BENCH.sentence("place: of the last define or check; NONE if it had none (FULL too), or there was none");
        BENCH.due("there was none", c.place(), NONE);
        BENCH.dueSign("fun f(): ^");
        c.erase();
        c.clear();
        BENCH.due("it stays", c.place(), 9);
        BENCH.due("check of nothing", c.check(), 1);
        BENCH.due("none", c.place(), NONE);
        BENCH.dueDefined("fun f(): int = x");
        BENCH.due("check", c.check(), IndexedCompiler.NAME);
        BENCH.due("place of the fault", c.place(), 15);
        dueSame("fun ^f(): int = 1");
        BENCH.due("check again", c.check(), IndexedCompiler.NAME);
        BENCH.dueDefined("fun g(): int(1) = 2");
        c.clear();
        BENCH.dueDefined("fun g(): int(1) = 2");
        BENCH.due("a GOAL is not PROVED", c.check(), 0);
        BENCH.due("that is no fault", c.place(), NONE);
        BENCH.due("place 0 is one", BENCH.define("x") * 10 + c.place(), SIGN * 10);
    }
}
