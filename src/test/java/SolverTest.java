import java.math.BigInteger;
import java.util.ArrayList;
import java.util.List;
import java.util.TreeMap;

/** Promise 20, and how a GOAL is PROVED: known cases, the limits, and a plain solver beside it. */
public final class SolverTest {
    private static final Bench BENCH = new Bench("SolverTest");
    private static final BigInteger LIMIT = BigInteger.valueOf(1000000000);
    private static long seed = 20261115;

    public static void main(String[] args) {
        withoutFacts();
        chains();
        rounding();
        whatIsFalse();
        askChangesNothing();
        rowsThatAreKept();
        numbersThatAreTooGreat();
        knownSystems();
        goalsOfFunctions();
        againstThePlainSolver();
        neverWrong();
        BENCH.end();
    }

    private static void fresh(int[]... facts) {
        BENCH.fresh();
        for (int[] f : facts) {
            BENCH.c.fact(f[0], f[1], f[2], f[3]);
        }
    }

    private static void due(boolean want, int a, int b, int c, int d) {
        BENCH.due("ask " + a + ", " + b + ", " + c + ", " + d, BENCH.c.ask(a, b, c, d), want);
    }

    private static void withoutFacts() {
        fresh();
        due(true, 0, 0, 0, 0);
        due(true, 0, 0, 0, 1000000);
        due(false, 0, 0, 0, -1);
        due(false, 0, 0, 0, -1000000);
        due(false, 1, 0, 0, 0);
        due(false, 1000, -1000, 1000, 1000000);
    }

    private static void chains() {
        fresh(new int[] {-1, 1, 0, 0}, new int[] {0, -1, 1, 0});
        due(true, -1, 0, 1, 0);
        due(true, -1, 0, 1, 1);
        due(false, -1, 0, 1, -1);
        due(false, 1, 0, -1, 0);
        due(true, -2, 1, 1, 0);
        fresh(new int[] {1, 0, 0, -3}, new int[] {0, 1, 0, -4});
        due(true, 1, 1, 0, -7);
        due(false, 1, 1, 0, -8);
        due(true, 1000, 1000, 0, -7000);
    }

    private static void rounding() {
        fresh(new int[] {2, 0, 0, -1});
        due(true, 1, 0, 0, -1);
        due(false, 1, 0, 0, -2);
        fresh(new int[] {3, 6, 0, -4});
        due(true, 1, 2, 0, -2);
        due(false, 1, 2, 0, -3);
        fresh(new int[] {-3, -6, 0, 4});
        due(true, -1, -2, 0, 1);
        due(false, -1, -2, 0, 0);
        // A GOAL is rounded, too: 2 v0 is not below 1 if v0 is not below 1.
        fresh(new int[] {1, 0, 0, -1});
        due(true, 2, 0, 0, -2);
        due(true, 2, 0, 0, -1);
        due(false, 2, 0, 0, -3);
    }

    private static void whatIsFalse() {
        fresh(new int[] {0, 0, 0, -1});
        due(true, 0, 0, 0, -1000000);
        fresh(new int[] {2, 0, 0, -1}, new int[] {-2, 0, 0, 1});
        due(true, 0, 7, 0, -5);
        fresh(new int[] {1, 0, 0, 0}, new int[] {-1, 0, 0, -1});
        due(true, 0, 0, 0, -1);
        // 2 v0 + 2 v1 = 1 has no whole numbers: rounded down, the two are against one another.
        fresh(new int[] {2, 2, 0, -1}, new int[] {-2, -2, 0, 1});
        due(true, 0, 0, 0, -1);
    }

    private static void askChangesNothing() {
        fresh(new int[] {1, 0, 0, 0});
        due(false, 0, 1, 0, 0);
        due(true, 1, 0, 0, 0);
        due(false, -1, 0, 0, 0);
        due(true, 1, 0, 0, 0);
        BENCH.due("facts", BENCH.c.forget(), 1);
    }

    /** Eight and ten rows give 79 when v2 goes, as two are alike; with the GOAL that are 80. */
    private static void rowsThatAreKept() {
        int[][] facts = new int[18][];
        for (int k = 0; k < 8; k++) {
            facts[k] = new int[] {1, k, 1, 0};
        }
        for (int k = 0; k < 10; k++) {
            facts[8 + k] = new int[] {0, k < 9 ? 9 * k : 79, -1, 0};
        }
        fresh(facts);
        due(true, 1, 79, 0, 0);
        due(true, 1, 3, 0, 0);
        BENCH.c.fact(0, 0, 0, 5);
        due(true, 1, 3, 0, 0);
        BENCH.c.fact(1, 79, 0, 5);
        due(true, 1, 3, 0, 0);
        BENCH.c.fact(1, 500, 0, 0);
        due(false, 1, 3, 0, 0);
    }

    private static void numbersThatAreTooGreat() {
        int[] wanted = {1, 0, 0, 0};
        // 999 v0 + 1000 v1 + 1,000,000,000 comes, which is not beyond.
        fresh(wanted, new int[] {1, 0, 1000, 1000000}, new int[] {0, 1, -999, 1000});
        due(true, 1, 0, 0, 0);
        fresh(wanted, new int[] {1, 0, 1000, 1000000}, new int[] {0, 1, -999, 1001});
        due(false, 1, 0, 0, 0);
        // What has no VARIABLES and is left out counts too.
        fresh(wanted, new int[] {0, 1, 1000, 500000}, new int[] {0, -1, -1000, 500000});
        due(true, 1, 0, 0, 0);
        fresh(wanted, new int[] {0, 1, 1000, 500000}, new int[] {0, -1, -1000, 500001});
        due(false, 1, 0, 0, 0);
        // So does one of two alike that is not the least.
        fresh(wanted, new int[] {999, 1000, 0, 5}, new int[] {1, 0, 1000, 1000000}, new int[] {0, 1, -999, 1000});
        due(true, 1, 0, 0, 0);
        fresh(wanted, new int[] {999, 1000, 0, 5}, new int[] {1, 0, 1000, 1000000}, new int[] {0, 1, -999, 1001});
        due(false, 1, 0, 0, 0);
        // Found false in the round in which a number is too great: not PROVED.
        fresh(new int[] {0, 1, 1000, -1000000}, new int[] {0, -1, -1000, -1000000});
        due(false, 0, 0, 0, -1);
        fresh(new int[] {0, 1, 1000, -500000}, new int[] {0, -1, -1000, -500000});
        due(true, 0, 0, 0, -1);
    }

    private static void knownSystems() {
        fresh(new int[] {-133, -195, 984, -993793}, new int[] {374, -201, -226, -626428}, new int[] {537, 337, 82, 886464},
            new int[] {-576, 864, 387, 286665}, new int[] {-342, -209, -337, -771611});
        due(false, 0, 0, 0, -1);
        // 3 v0 = 2 v1 + 1 and 3 v1 = 2 v2 + 1: no limit is met, and a true GOAL need not be PROVED.
        fresh(new int[] {3, -2, 0, -1}, new int[] {-3, 2, 0, 1}, new int[] {0, 3, -2, -1}, new int[] {0, -3, 2, 1});
        due(true, 9, 0, -4, -5);
        due(true, -9, 0, 4, 5);
        due(false, 1, 0, 0, 0);
    }

    /** In PROPS, what comes when a number goes in for i may be beyond 1,000,000,000, and is not PROVED then. */
    private static void goalsOfFunctions() {
        BENCH.dueCheck(1, "fun g(k: int{i | 501*i + 501*i >= 0}): int = 1", "fun f(): int = g(999*999)");
        BENCH.dueCheck(0, "fun g(k: int{i | 502*i + 501*i >= 0}): int = 1", "fun f(): int = g(999*999)");
        BENCH.dueCheck(1, "fun g(k: int{i | 999*i + 999*i >= 0}): int = 1", "fun f(x: int{i | i >= 0}): int = g(999*x*999)");
        BENCH.dueCheck(1, "fun f{n}(a: row(n), lo: int{i | 0 <= i & i < n}, hi: int{j | lo <= j & j < n}): int = a[(lo + hi) / 2]");
        BENCH.due("the middle is free", BENCH.c.count(4), 1);
    }

    private static int next(int bound) {
        seed = seed * 6364136223846793005L + 1442695040888963407L;
        return (int) ((seed >>> 33) % bound);
    }

    private static int[] anyRow(int great, int greatest) {
        int[] row = new int[4];
        for (int k = 0; k < 3; k++) {
            row[k] = next(4) == 0 ? 0 : next(2 * great + 1) - great;
        }
        row[3] = next(2 * greatest + 1) - greatest;
        return row;
    }

    private static void againstThePlainSolver() {
        int[] greats = {1, 2, 5, 30, 1000};
        int[] greatests = {3, 30, 1000, 1000000};
        for (int turn = 0; turn < 3000; turn++) {
            int great = greats[next(5)];
            int greatest = greatests[next(4)];
            int[][] facts = new int[next(turn % 20 == 0 ? 41 : 8)][];
            for (int k = 0; k < facts.length; k++) {
                facts[k] = anyRow(great, greatest);
            }
            fresh(facts);
            for (int k = 0; k < 3; k++) {
                int[] goal = anyRow(great, greatest);
                due(plain(facts, goal), goal[0], goal[1], goal[2], goal[3]);
            }
        }
    }

    /** What is PROVED holds at every point near 0 at which all FACTS hold. */
    private static void neverWrong() {
        for (int turn = 0; turn < 300; turn++) {
            int[][] facts = new int[1 + next(5)][];
            for (int k = 0; k < facts.length; k++) {
                facts[k] = anyRow(3, 5);
            }
            fresh(facts);
            int[] goal = anyRow(3, 5);
            if (BENCH.c.ask(goal[0], goal[1], goal[2], goal[3])) {
                BENCH.due("points against what is PROVED", pointsAgainst(facts, goal), 0);
            }
        }
    }

    private static int pointsAgainst(int[][] facts, int[] goal) {
        int found = 0;
        for (int x = -5; x <= 5; x++) {
            for (int y = -5; y <= 5; y++) {
                for (int z = -5; z <= 5; z++) {
                    boolean all = true;
                    for (int[] f : facts) {
                        all &= f[0] * x + f[1] * y + f[2] * z + f[3] >= 0;
                    }
                    if (all && goal[0] * x + goal[1] * y + goal[2] * z + goal[3] < 0) {
                        found++;
                    }
                }
            }
        }
        return found;
    }

    private static BigInteger[] big(int[] row, int factor, int more) {
        BigInteger[] result = new BigInteger[4];
        for (int k = 0; k < 4; k++) {
            result[k] = BigInteger.valueOf((long) factor * row[k] + (k == 3 ? more : 0));
        }
        return result;
    }

    /** The document's words once more, with whole rows and numbers of any size. */
    private static boolean plain(int[][] facts, int[] goal) {
        List<BigInteger[]> all = new ArrayList<>();
        for (int[] f : facts) {
            all.add(big(f, 1, 0));
        }
        all.add(big(goal, -1, -1));
        for (int variable = 3; variable >= 0; variable--) {
            TreeMap<String, BigInteger[]> kept = new TreeMap<>();
            boolean isFalse = false;
            for (BigInteger[] row : all) {
                BigInteger divisor = row[0].gcd(row[1]).gcd(row[2]);
                BigInteger[] tight = row.clone();
                if (divisor.signum() != 0) {
                    for (int k = 0; k < 3; k++) {
                        tight[k] = row[k].divide(divisor);
                    }
                    tight[3] = row[3].subtract(row[3].mod(divisor)).divide(divisor);
                }
                for (BigInteger number : tight) {
                    if (number.abs().compareTo(LIMIT) > 0) {
                        return false;
                    }
                }
                if (divisor.signum() == 0) {
                    isFalse |= tight[3].signum() < 0;
                    continue;
                }
                String key = tight[0] + " " + tight[1] + " " + tight[2];
                if (!kept.containsKey(key) || kept.get(key)[3].compareTo(tight[3]) > 0) {
                    kept.put(key, tight);
                }
            }
            if (kept.size() > 80) {
                return false;
            }
            if (isFalse) {
                return true;
            }
            all = variable > 0 ? without(variable - 1, new ArrayList<>(kept.values())) : all;
        }
        return false;
    }

    private static List<BigInteger[]> without(int variable, List<BigInteger[]> rows) {
        List<BigInteger[]> result = new ArrayList<>();
        for (BigInteger[] one : rows) {
            if (one[variable].signum() == 0) {
                result.add(one);
            }
            for (BigInteger[] two : rows) {
                if (one[variable].signum() > 0 && two[variable].signum() < 0) {
                    BigInteger[] sum = new BigInteger[4];
                    for (int k = 0; k < 4; k++) {
                        sum[k] = one[k].multiply(two[variable].negate()).add(two[k].multiply(one[variable]));
                    }
                    result.add(sum);
                }
            }
        }
        return result;
    }
}
