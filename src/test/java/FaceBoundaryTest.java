import java.lang.reflect.Constructor;
import java.lang.reflect.Field;
import java.lang.reflect.Method;
import java.lang.reflect.Modifier;
import java.util.ArrayList;
import java.util.List;
import java.util.TreeSet;

/** The public face, promises 1 and 11 to 15, what throws, and an object's 512th call. */
public final class FaceBoundaryTest {
    private static final int MILLIARD = 1000000000;
    private static final int NONE = IndexedCompiler.NONE;
    private static final String[] METHODS = {
        "boolean ask(int,int,int,int) IllegalArgumentException", "int check()", "int clear()",
        "int code(int,int,int) IllegalArgumentException IllegalStateException",
        "int count(int) IllegalArgumentException", "int define()", "int erase()",
        "int fact(int,int,int,int) IllegalArgumentException IllegalStateException", "int forget()",
        "int get(int,int) IllegalArgumentException IllegalStateException",
        "int goal(int,int) IllegalArgumentException IllegalStateException", "int place()", "int printed(int,boolean)",
        "int run(int,int,int) IllegalArgumentException IllegalStateException", "int told(int) IllegalArgumentException",
        "int type(int,int,int,int,int) IllegalStateException",
        "int value(int,int) IllegalArgumentException", "void make(int,int) IllegalArgumentException",
        "void put(int,int,int) IllegalArgumentException IllegalStateException",
        "void set(int,int) IllegalArgumentException"
    };
    private static final String[] CONSTANTS = {
        "NONE", "SIGN", "SAME", "FULL", "NAME", "KIND", "COUNT", "MANY", "UNFIT", "STEPS", "STACK", "OVER", "NEGATIVE", "MEMORY",
        "OUTSIDE"
    };
    private static final Bench BENCH = new Bench("FaceBoundaryTest");

    public static void main(String[] args) throws IllegalAccessException {
        theClass();
        theConstants();
        theMethods();
        aNewObject();
        eachObjectIsItsOwn();
        setSlots();
        setNumbers();
        makeLengths();
        makeZeros();
        putNumbers();
        putPlaces();
        getNumbers();
        getPlaces();
        valueNumbers();
        valueTellsWhatItWas();
        argumentsGoFirst();
        whatThrowsChangesNothing();
        the512thCall();
        BENCH.end();
    }

    // ---- the public face

    private static void theClass() {
        BENCH.sentence("public final class IndexedCompiler; public IndexedCompiler()");
        BENCH.due("modifiers", IndexedCompiler.class.getModifiers() & (Modifier.PUBLIC | Modifier.FINAL),
            Modifier.PUBLIC | Modifier.FINAL);
        BENCH.due("no package", IndexedCompiler.class.getPackageName().isEmpty(), true);
        Constructor<?>[] all = IndexedCompiler.class.getDeclaredConstructors();
        BENCH.due("constructors", all.length, 1);
        BENCH.due("it is public", Modifier.isPublic(all[0].getModifiers()), true);
        BENCH.due("without arguments", all[0].getParameterCount(), 0);
    }

    private static void theConstants() throws IllegalAccessException {
        BENCH.sentence("public static final int NONE = -1 .. OUTSIDE = -15");
        int found = 0;
        for (Field field : IndexedCompiler.class.getDeclaredFields()) {
            int modifiers = field.getModifiers();
            if (Modifier.isPrivate(modifiers)) {
                continue;
            }
            BENCH.due(field.getName(), modifiers, Modifier.PUBLIC | Modifier.STATIC | Modifier.FINAL);
            int k = List.of(CONSTANTS).indexOf(field.getName());
            BENCH.due(field.getName() + " is told", k >= 0 && field.getType() == int.class, true);
            BENCH.due(field.getName(), k >= 0 ? field.getInt(null) : 0, -1 - k);
            found++;
        }
        BENCH.due("constants", found, CONSTANTS.length);
    }

    private static void theMethods() {
        BENCH.sentence("every method, with the exceptions that it names, and no other");
        TreeSet<String> found = new TreeSet<>();
        for (Method method : IndexedCompiler.class.getDeclaredMethods()) {
            int modifiers = method.getModifiers();
            if (!Modifier.isPrivate(modifiers) && !method.isSynthetic()) {
                BENCH.due(method.getName(), modifiers, Modifier.PUBLIC);
                found.add(told(method));
            }
        }
        TreeSet<String> want = new TreeSet<>(List.of(METHODS));
        for (String each : want) {
            BENCH.due("there is " + each, found.contains(each), true);
        }
        for (String each : found) {
            BENCH.due("the document tells " + each, want.contains(each), true);
        }
    }

    private static String told(Method method) {
        List<String> types = new ArrayList<>();
        for (Class<?> type : method.getParameterTypes()) {
            types.add(type.getSimpleName());
        }
        TreeSet<String> thrown = new TreeSet<>();
        for (Class<?> type : method.getExceptionTypes()) {
            thrown.add(type.getSimpleName());
        }
        String text = method.getReturnType().getSimpleName() + " " + method.getName() + "(" + String.join(",", types) + ")";
        return thrown.isEmpty() ? text : text + " " + String.join(" ", thrown);
    }

    // ---- promise 1

    private static void aNewObject() {
        IndexedCompiler c = BENCH.sentence("A new object: an empty LINE, no functions, nothing checked; SLOTS and VALUES are the number 0; no FACTS at the desk");
        BENCH.due("the line", c.type(0, 0, 0, 0, 0), 0);
        for (int what = 0; what <= 5; what++) {
            BENCH.due("count " + what, c.count(what), what == 5 ? NONE : 0);
        }
        BENCH.due("no place", c.place(), NONE);
        BENCH.dueThrow("goal", Bench.STATE, () -> c.goal(0, 0));
        BENCH.dueThrow("code", Bench.STATE, () -> c.code(0, 0, 0));
        for (int slot = 0; slot < 6; slot++) {
            int each = slot;
            BENCH.due("slot " + slot, c.get(slot, NONE), 0);
            BENCH.dueThrow("it is a number", Bench.STATE, () -> c.get(each, 0));
            BENCH.dueThrow("nothing can be put", Bench.STATE, () -> c.put(each, 0, 0));
        }
        for (int k = 0; k < 4; k++) {
            BENCH.due("value " + k, c.value(k, 1), 0);
        }
        BENCH.due("no facts", c.ask(1, 0, 0, 0), false);
        BENCH.due("forget", c.forget(), 0);
        BENCH.dueTold(0, 0, 0, 0, 0, 0, 0, 0);
        BENCH.due("printed", c.printed(0, false), NONE);
        BENCH.due("answered", c.printed(0, true), NONE);
    }

    private static void eachObjectIsItsOwn() {
        IndexedCompiler c = BENCH.sentence("A new object knows nothing of others");
        BENCH.dueDefined("fun f(): int = out 1");
        c.check();
        c.run(0, 0, 9);
        c.set(0, 5);
        c.value(0, 6);
        c.fact(0, 0, 0, -1);
        IndexedCompiler d = new IndexedCompiler();
        BENCH.due("functions", d.count(0), 0);
        BENCH.due("line", d.erase(), 0);
        BENCH.due("slot", d.get(0, NONE), 0);
        BENCH.due("value", d.value(0, 0), 0);
        BENCH.due("desk", d.ask(0, 0, 0, -1), false);
        BENCH.due("told", d.told(2), 0);
        BENCH.due("the first one is as it was", c.get(0, NONE) + c.value(0, 0) + c.count(0) + c.told(2) + c.forget(), 5 + 6 + 1
            + 3 + 1);
    }

    // ---- promises 11 to 15

    private static void setSlots() {
        IndexedCompiler c = BENCH.sentence("set: IllegalArgument: it is not 0 .. 5");
        for (int slot = 0; slot <= 5; slot++) {
            c.set(slot, 70 + slot);
        }
        for (int slot = 0; slot <= 5; slot++) {
            BENCH.due("slot " + slot, c.get(slot, NONE), 70 + slot);
        }
        for (int slot : new int[] {-1, 6, Integer.MIN_VALUE, Integer.MAX_VALUE}) {
            BENCH.dueThrow("set of " + slot, Bench.ARGUMENT, () -> c.set(slot, 0));
            BENCH.dueThrow("make of " + slot, Bench.ARGUMENT, () -> c.make(slot, 0));
            BENCH.dueThrow("put of " + slot, Bench.ARGUMENT, () -> c.put(slot, 0, 0));
            BENCH.dueThrow("get of " + slot, Bench.ARGUMENT, () -> c.get(slot, NONE));
        }
        c.make(3, 2);
        c.set(3, 9);
        BENCH.due("a number, no row any more", c.get(3, NONE), 9);
        BENCH.dueThrow("it has no number 0", Bench.STATE, () -> c.get(3, 0));
    }

    private static void setNumbers() {
        IndexedCompiler c = BENCH.sentence("set: or v is not -1,000,000,000 .. 1,000,000,000");
        for (int v : new int[] {MILLIARD - 1, MILLIARD, 0, -1, 1 - MILLIARD, -MILLIARD}) {
            c.set(2, v);
            BENCH.due("number", c.get(2, NONE), v);
        }
        for (int v : new int[] {MILLIARD + 1, -MILLIARD - 1, Integer.MAX_VALUE, Integer.MIN_VALUE}) {
            BENCH.dueThrow("set to " + v, Bench.ARGUMENT, () -> c.set(2, v));
        }
        BENCH.due("the last that was fine", c.get(2, NONE), -MILLIARD);
    }

    private static void makeLengths() {
        IndexedCompiler c = BENCH.sentence("make: IllegalArgument: n is not 0 .. 40");
        for (int n : new int[] {0, 1, 39, 40}) {
            c.make(4, n);
            BENCH.due("length", c.get(4, NONE), n);
            if (n > 0) {
                BENCH.due("its last number", c.get(4, n - 1), 0);
            }
            BENCH.dueThrow("none behind it", Bench.STATE, () -> c.get(4, n));
        }
        for (int n : new int[] {-1, 41, Integer.MAX_VALUE, Integer.MIN_VALUE}) {
            BENCH.dueThrow("make of " + n, Bench.ARGUMENT, () -> c.make(4, n));
        }
        BENCH.due("still 40", c.get(4, NONE), 40);
    }

    private static void makeZeros() {
        IndexedCompiler c = BENCH.sentence("make: a SLOT is a row of n zeros");
        for (int slot = 0; slot <= 5; slot++) {
            c.make(slot, 40);
            for (int i : new int[] {0, 39}) {
                c.put(slot, i, 100 * slot + i + 1);
            }
        }
        for (int slot = 0; slot <= 5; slot++) {
            BENCH.due("its own first", c.get(slot, 0), 100 * slot + 1);
            BENCH.due("its own last", c.get(slot, 39), 100 * slot + 40);
        }
        c.make(2, 1);
        BENCH.due("zero again", c.get(2, 0), 0);
        c.make(2, 40);
        BENCH.due("zeros, not what was behind", c.get(2, 39), 0);
        BENCH.due("others stay", c.get(1, 39) + c.get(3, 0), 140 + 301);
    }

    private static void putNumbers() {
        IndexedCompiler c = BENCH.sentence("put: number i of a SLOT's row becomes v. IllegalArgument, as with set");
        c.make(1, 2);
        for (int v : new int[] {MILLIARD - 1, MILLIARD, 0, -1, 1 - MILLIARD, -MILLIARD}) {
            c.put(1, 1, v);
            BENCH.due("number 1", c.get(1, 1), v);
            BENCH.due("number 0 stays", c.get(1, 0), 0);
        }
        for (int v : new int[] {MILLIARD + 1, -MILLIARD - 1, Integer.MAX_VALUE, Integer.MIN_VALUE}) {
            BENCH.dueThrow("put of " + v, Bench.ARGUMENT, () -> c.put(1, 1, v));
        }
        BENCH.due("the last that was fine", c.get(1, 1), -MILLIARD);
    }

    private static void putPlaces() {
        IndexedCompiler c = BENCH.sentence("put: IllegalState: the SLOT is a number, or its row has no number i");
        BENCH.dueThrow("a number", Bench.STATE, () -> c.put(0, 0, 0));
        BENCH.dueThrow("a number, NONE", Bench.STATE, () -> c.put(0, NONE, 0));
        for (int n : new int[] {0, 1, 40}) {
            c.make(0, n);
            for (int i : new int[] {-2, -1, n, n + 1, Integer.MAX_VALUE, Integer.MIN_VALUE}) {
                BENCH.dueThrow("put at " + i + " of " + n, Bench.STATE, () -> c.put(0, i, 1));
            }
            for (int i = 0; i < n; i += 13) {
                c.put(0, i, i + 1);
                BENCH.due("put at " + i, c.get(0, i), i + 1);
            }
            if (n > 0) {
                c.put(0, n - 1, 8);
                BENCH.due("put at the last", c.get(0, n - 1), 8);
            }
        }
    }

    private static void getNumbers() {
        IndexedCompiler c = BENCH.sentence("get: i = NONE the number, or the length of its row");
        BENCH.due("a number", c.get(5, NONE), 0);
        c.set(5, -1);
        BENCH.due("a number that is NONE", c.get(5, NONE), -1);
        c.make(5, 0);
        BENCH.due("the length of an empty row", c.get(5, NONE), 0);
        c.make(5, 3);
        BENCH.due("a length", c.get(5, NONE), 3);
        c.put(5, 0, 7);
        BENCH.due("still the length", c.get(5, NONE), 3);
    }

    private static void getPlaces() {
        IndexedCompiler c = BENCH.sentence("get: IllegalState: i is not NONE, and the SLOT is a number, or its row has none such");
        for (int i : new int[] {-2, 0, 1, Integer.MAX_VALUE, Integer.MIN_VALUE}) {
            BENCH.dueThrow("of a number, at " + i, Bench.STATE, () -> c.get(0, i));
        }
        for (int n : new int[] {0, 1, 40}) {
            c.make(0, n);
            for (int i : new int[] {-2, n, n + 1, Integer.MAX_VALUE, Integer.MIN_VALUE}) {
                BENCH.dueThrow("of " + n + ", at " + i, Bench.STATE, () -> c.get(0, i));
            }
            if (n > 0) {
                BENCH.due("first and last", c.get(0, 0) + c.get(0, n - 1), 0);
            }
        }
        BENCH.dueThrow("no such SLOT goes first", Bench.ARGUMENT, () -> c.get(6, 99));
    }

    private static void valueNumbers() {
        IndexedCompiler c = BENCH.sentence("value: IllegalArgument: k is not 0 .. 3, or v as with set");
        for (int k = 0; k <= 3; k++) {
            BENCH.due("was", c.value(k, 10 + k), 0);
        }
        for (int k : new int[] {-1, 4, Integer.MIN_VALUE, Integer.MAX_VALUE}) {
            BENCH.dueThrow("value " + k, Bench.ARGUMENT, () -> c.value(k, 0));
        }
        for (int k = 0; k <= 3; k++) {
            int each = k;
            for (int v : new int[] {MILLIARD + 1, -MILLIARD - 1, Integer.MAX_VALUE, Integer.MIN_VALUE}) {
                BENCH.dueThrow("value of " + v, Bench.ARGUMENT, () -> c.value(each, v));
            }
            BENCH.due("what threw changed nothing", c.value(k, MILLIARD), 10 + k);
            BENCH.due("the greatest", c.value(k, -MILLIARD), MILLIARD);
            BENCH.due("the least", c.value(k, 0), -MILLIARD);
        }
    }

    private static void valueTellsWhatItWas() {
        IndexedCompiler c = BENCH.sentence("value: VALUE k becomes v: what it was");
        BENCH.due("0", c.value(1, 5), 0);
        BENCH.due("5", c.value(1, 5), 5);
        BENCH.due("5 again", c.value(1, -6), 5);
        BENCH.due("-6", c.value(1, 0), -6);
        BENCH.due("others", c.value(0, 0) + c.value(2, 0) + c.value(3, 0), 0);
    }

    // ---- what throws

    private static void argumentsGoFirst() {
        IndexedCompiler c = BENCH.sentence("of several exceptions the first one listed is thrown");
        BENCH.dueThrow("goal", Bench.ARGUMENT, () -> c.goal(-1, 6));
        BENCH.dueThrow("code", Bench.ARGUMENT, () -> c.code(-1, 2, -1));
        BENCH.dueThrow("put, by the slot", Bench.ARGUMENT, () -> c.put(6, -1, 0));
        BENCH.dueThrow("put, by the number", Bench.ARGUMENT, () -> c.put(0, -1, MILLIARD + 1));
        BENCH.dueThrow("get", Bench.ARGUMENT, () -> c.get(-1, 0));
        BENCH.dueThrow("run", Bench.ARGUMENT, () -> c.run(-1, 2, 0));
        for (int k = 0; k < 40; k++) {
            c.fact(0, 0, 0, 0);
        }
        BENCH.dueThrow("fact", Bench.ARGUMENT, () -> c.fact(0, 0, 0, 1000001));
        BENCH.dueThrow("fact, with none wrong", Bench.STATE, () -> c.fact(0, 0, 0, 1000000));
    }

    /** All that can be asked without changing anything, as one text. */
    private static String picture(IndexedCompiler c) {
        StringBuilder all = new StringBuilder();
        all.append(c.type(0, 0, 0, 0, 0)).append(' ').append(c.place());
        for (int what = 0; what <= 5; what++) {
            all.append(' ').append(c.count(what)).append(' ').append(c.goal(0, what));
        }
        for (int slot = 0; slot < 3; slot++) {
            all.append(' ').append(c.get(slot, NONE));
        }
        all.append(' ').append(c.get(1, 0)).append(' ').append(c.get(1, 1));
        for (int what = 0; what <= 7; what++) {
            all.append(' ').append(c.told(what));
        }
        for (int k = 0; k < 4; k++) {
            all.append(' ').append(c.code(0, k % 2, k)).append(' ').append(c.printed(k, k % 2 == 0));
        }
        return all.append(' ').append(c.ask(1, 0, 0, -3)).append(' ').append(c.ask(0, 1, 0, 0)).toString();
    }

    private static void whatThrowsChangesNothing() {
        BENCH.sentence("What throws changes nothing");
        BENCH.dueCheck(1, "fun f(x: int, a: row(2)): row(2) = out x; a[0] := x; a");
        IndexedCompiler c = BENCH.c;
        BENCH.c.erase();
        BENCH.type(" ".repeat(470));
        c.set(0, 4);
        c.make(1, 2);
        c.put(1, 1, 6);
        c.set(2, 5);
        c.value(2, 9);
        c.fact(1, 0, 0, -3);
        BENCH.due("run", c.run(0, 0, 99), 1);
        String before = picture(c);
        Bench.Call[] calls = {
            () -> c.type(0x20202020, 0x20202020, 0x20202020, 0, 0), () -> c.count(6), () -> c.goal(0, 6), () -> c.goal(99, 0),
            () -> c.code(0, 2, 0), () -> c.code(0, 0, -1),
            () -> c.code(1, 0, 0), () -> c.set(6, 1), () -> c.set(0, MILLIARD + 1), () -> c.make(-1, 1), () -> c.make(1, 41),
            () -> c.put(1, 2, 1), () -> c.put(0, 0, 1),
            () -> c.put(1, 0, -MILLIARD - 1), () -> c.get(1, 2), () -> c.value(4, 1), () -> c.value(2, MILLIARD + 1),
            () -> c.run(0, 2, 9), () -> c.run(0, 0, 0), () -> c.run(0, 0, 20001),
            () -> c.run(1, 0, 9), () -> c.told(8), () -> c.fact(1001, 0, 0, 0), () -> c.ask(0, 0, 0, 1000001)
        };
        for (int k = 0; k < calls.length; k++) {
            int thrown = 0;
            try {
                calls[k].make();
            } catch (IllegalArgumentException | IllegalStateException e) {
                thrown = 1;
            }
            BENCH.due("call " + k + " throws", thrown, 1);
        }
        BENCH.due("all is as it was", picture(c).equals(before), true);
        BENCH.due("value", c.value(2, 0), 9);
        BENCH.due("facts", c.forget(), 1);
    }

    // ---- how long an object is used

    private static void the512thCall() {
        IndexedCompiler c = BENCH.sentence("An object is used for at most 512 calls");
        BENCH.define("fun f(a: row(2)): int = out (a[0] := a[1] + 1); a[2]");
        BENCH.due("the line", c.type(0, 0, 0, 0, 0), 52);
        // erase, type five times, define.
        int calls = 7;
        // Checks, RUNS, refused defines and questions by turns, as many as there may be.
        int turn = 0;
        while (calls + 8 <= 512) {
            turn++;
            BENCH.due("check", c.check(), 1);
            c.make(0, 2);
            c.put(0, 1, turn);
            BENCH.due("run", c.run(0, turn % 2, 20000), IndexedCompiler.OUTSIDE);
            BENCH.due("get", c.get(0, 0), turn + 1);
            BENCH.due("printed", c.printed(0, false), turn + 1);
            BENCH.due("same", c.define(), IndexedCompiler.SAME);
            BENCH.due("ask", c.ask(turn, 0, 0, 0), false);
            calls += 8;
        }
        while (calls < 511) {
            BENCH.due("count", c.count(1), 6);
            calls++;
        }
        BENCH.due("the 512th", c.run(0, 0, 20000), IndexedCompiler.OUTSIDE);
    }
}
