/** What the tests share: an object under test, short ways to type and to look, and a count of wrong answers. */
final class Bench {
    /** A call that may throw. */
    interface Call {
        void make();
    }

    static final int ARGUMENT = 1;
    static final int STATE = 2;
    static final int NOTHING = 0;
    static final String[] RELATIONS = {"<", "<=", "=", ">=", ">"};

    private final String title;
    private String sentence = "";
    private int wrong;
    IndexedCompiler c;

    Bench(String title) {
        this.title = title;
        fresh();
    }

    /** Whether the RELATION 0 .. 4 holds. */
    static boolean holds(int r, int left, int right) {
        return r == 0 ? left < right : r == 1 ? left <= right : r == 2 ? left == right : r == 3 ? left >= right : left > right;
    }

    IndexedCompiler fresh() {
        c = new IndexedCompiler();
        return c;
    }

    /** From here on this sentence of the document is tested, on a new object. */
    IndexedCompiler sentence(String text) {
        sentence = " [" + text + "]";
        return fresh();
    }

    void due(String what, long got, long want) {
        if (got != want) {
            wrong++;
            System.out.println(title + sentence + ": " + what + " answered " + got + ", due is " + want);
        }
    }

    void due(String what, boolean got, boolean want) {
        due(what, got ? 1 : 0, want ? 1 : 0);
    }

    /** What a call throws: NOTHING, ARGUMENT or STATE; anything else is a wrong answer. */
    void dueThrow(String what, int want, Call call) {
        int got = NOTHING;
        try {
            call.make();
        } catch (IllegalArgumentException e) {
            got = ARGUMENT;
        } catch (IllegalStateException e) {
            got = STATE;
        } catch (RuntimeException e) {
            got = 9;
        }
        due(what + " throws", got, want);
    }

    /** Types a text of any length, twenty characters a call; what the last call answered. */
    int type(String text) {
        int answer = c.type(0, 0, 0, 0, 0);
        for (int from = 0; from < text.length(); from += 20) {
            int[] five = new int[5];
            for (int k = 0; k < 20; k++) {
                int sign = from + k < text.length() ? text.charAt(from + k) : 0;
                five[k / 4] = five[k / 4] << 8 | sign;
            }
            answer = c.type(five[0], five[1], five[2], five[3], five[4]);
        }
        return answer;
    }

    int define(String text) {
        c.erase();
        type(text);
        return c.define();
    }

    /** A line that is no function: what define and place answer. */
    void dueRefused(String text, int answer, int place) {
        due("define of '" + text + "'", define(text), answer);
        due("place of '" + text + "'", c.place(), place);
    }

    /** The place of the refusal is that of the sign ^ in marked, which is not typed. */
    void dueSign(String marked) {
        int place = marked.indexOf('^');
        dueRefused(marked.substring(0, place) + marked.substring(place + 1), IndexedCompiler.SIGN, place);
    }

    /** The same on a new object for each, so that none has too many calls. */
    void dueSigns(String... marked) {
        for (String each : marked) {
            fresh();
            dueSign(each);
            due("functions behind '" + each + "'", c.count(0), 0);
        }
    }

    /** Each is a function on a new object. */
    void dueFunctions(String... texts) {
        for (String each : texts) {
            functions(each);
        }
    }

    void dueDefined(String text) {
        int before = c.count(0);
        due("define of '" + text + "'", define(text), before);
        due("place of '" + text + "'", c.place(), IndexedCompiler.NONE);
    }

    /** A new object with these functions. */
    void functions(String... texts) {
        fresh();
        for (String text : texts) {
            dueDefined(text);
        }
    }

    /** A new object with these functions; a fault in that function, at the sign ^ in it, which is not typed. */
    void dueFault(int fault, int function, String... marked) {
        int place = marked[function].indexOf('^');
        String[] texts = marked.clone();
        texts[function] = marked[function].substring(0, place) + marked[function].substring(place + 1);
        functions(texts);
        String what = String.join(" // ", texts);
        due("check of " + what, c.check(), fault);
        due("place of " + what, c.place(), place);
        due("function of " + what, c.count(5), function);
        for (int k = 1; k <= 4; k++) {
            due("count " + k + " behind a fault of " + what, c.count(k), 0);
        }
        dueThrow("goal behind a fault", STATE, () -> c.goal(0, 0));
        dueThrow("code behind a fault", STATE, () -> c.code(0, 0, 0));
        dueThrow("run behind a fault", STATE, () -> c.run(0, 0, 1));
    }

    void dueCheck(int want, String... texts) {
        functions(texts);
        due("check of " + String.join(" // ", texts), c.check(), want);
        due("place behind check", c.place(), IndexedCompiler.NONE);
        due("function of a fault", c.count(5), IndexedCompiler.NONE);
    }

    /** GOALS of the last check, each by function, place, sort, whether PROVED, FACTS, VARIABLES. */
    void dueGoals(int[][] goals) {
        due("how many goals", c.count(1), goals.length);
        int proved = 0;
        for (int k = 0; k < goals.length && k < c.count(1); k++) {
            for (int what = 0; what < 6; what++) {
                due("goal " + k + ", " + what, c.goal(k, what), goals[k][what]);
            }
            proved += goals[k][3];
        }
        due("how many proved", c.count(2), proved);
        dueThrow("the goal behind the last", STATE, () -> c.goal(goals.length, 0));
    }

    void dueCode(int function, int how, int... numbers) {
        for (int k = 0; k < numbers.length; k++) {
            due("code " + function + ", " + how + ", " + k, c.code(function, how, k), numbers[k]);
        }
        due("code behind the end", c.code(function, how, numbers.length), IndexedCompiler.NONE);
        due("code far behind the end", c.code(function, how, Integer.MAX_VALUE), IndexedCompiler.NONE);
    }

    void dueTold(int... numbers) {
        for (int k = 0; k < numbers.length; k++) {
            due("told " + k, c.told(k), numbers[k]);
        }
    }

    void end() {
        System.out.println(title + (wrong == 0 ? ": all answers are as due" : ": " + wrong + " answers are not as due"));
        if (wrong != 0) {
            System.exit(1);
        }
    }
}
