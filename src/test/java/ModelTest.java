import java.math.BigInteger;
import java.util.ArrayList;
import java.util.List;

/**
 * Long runs of calls, wrong arguments among them, against a plain model of the document. The model counts draws of
 * single copies instead of using the document's formulas, and sums without wrapping until the end.
 */
public final class ModelTest {
    private static final int RUNS = 60;
    private static final int CALLS = 512;
    private static final int FULL_RUNS = 45;
    // Own generator with a fixed seed, so that every run of the test makes the same calls.
    private static long seed = 20261115L;

    private static final class Person {
        int first = -1;
        int second = -1;
        final int[] sight = {1, 1, 1};
    }

    private static final class Model {
        final List<Person> all = new ArrayList<>();
        int q = 8;
        int[] genotype;
        BigInteger[][][][] pairs;
        BigInteger total;
        int[] possible;

        boolean has(int p) {
            return p >= 0 && p < all.size();
        }

        int add(int a, int b) {
            if (all.size() == 7) {
                return -2;
            }
            Person n = new Person();
            n.first = a;
            n.second = b;
            all.add(n);
            total = null;
            return all.size() - 1;
        }

        int founder() {
            return add(-1, -1);
        }

        int child(int a, int b) {
            return !has(a) || !has(b) || a == b ? -1 : add(a, b);
        }

        int remove() {
            if (all.isEmpty()) {
                return -1;
            }
            total = null;
            all.remove(all.size() - 1);
            return all.size();
        }

        int frequency(int to) {
            if (to < 0 || to > 16) {
                return -1;
            }
            int old = q;
            q = to;
            total = null;
            return old;
        }

        int see(int p, int g, int s) {
            if (!has(p) || g < 0 || g > 2 || s < 0 || s > 5) {
                return -1;
            }
            int old = all.get(p).sight[g];
            all.get(p).sight[g] = s;
            total = null;
            return old;
        }

        int seen(int p, int g) {
            return !has(p) || g < 0 || g > 2 ? -1 : all.get(p).sight[g];
        }

        /** In how many ways a copy of the one and a copy of the other give g copies of B, b1 and b2 of n being B. */
        static int draws(int n, int b1, int b2, int g) {
            int ways = 0;
            for (int i = 0; i < n; i++) {
                for (int j = 0; j < n; j++) {
                    if ((i < b1 ? 1 : 0) + (j < b2 ? 1 : 0) == g) {
                        ways++;
                    }
                }
            }
            return ways;
        }

        void sumUp() {
            if (total != null) {
                return;
            }
            int n = all.size();
            total = BigInteger.ZERO;
            genotype = new int[n];
            possible = new int[n];
            pairs = new BigInteger[n][3][n][3];
            for (BigInteger[][][] a : pairs) {
                for (BigInteger[][] b : a) {
                    for (BigInteger[] c : b) {
                        java.util.Arrays.fill(c, BigInteger.ZERO);
                    }
                }
            }
            visit(0, BigInteger.ONE);
        }

        /** Unbounded numbers: a branch is cut only where a factor is really 0. */
        void visit(int p, BigInteger weight) {
            if (weight.signum() == 0) {
                return;
            }
            if (p == all.size()) {
                enter(weight);
                return;
            }
            Person n = all.get(p);
            for (int g = 0; g < 3; g++) {
                genotype[p] = g;
                int ways = n.first < 0 ? draws(16, q, q, g) : draws(2, genotype[n.first], genotype[n.second], g);
                visit(p + 1, weight.multiply(BigInteger.valueOf((long) ways * n.sight[g])));
            }
        }

        void enter(BigInteger weight) {
            total = total.add(weight);
            for (int p = 0; p < all.size(); p++) {
                possible[p] |= 1 << genotype[p];
                for (int r = 0; r < all.size(); r++) {
                    BigInteger[] cell = pairs[p][genotype[p]][r];
                    cell[genotype[r]] = cell[genotype[r]].add(weight);
                }
            }
        }

        long likelihood() {
            sumUp();
            return total.longValue();
        }

        long share(int p, int g) {
            return shareOfTwo(p, g, p, g);
        }

        long shareOfTwo(int p, int g, int r, int h) {
            if (!has(p) || !has(r) || g < 0 || g > 2 || h < 0 || h > 2) {
                return 0;
            }
            sumUp();
            return pairs[p][g][r][h].longValue();
        }

        long copies(int p) {
            return share(p, 1) + share(p, 2) + share(p, 2);
        }

        int possible(int p) {
            if (!has(p)) {
                return 0;
            }
            sumUp();
            return possible[p];
        }

        boolean before(int p, int r) {
            if (!has(p) || !has(r) || all.get(r).first < 0) {
                return false;
            }
            int a = all.get(r).first;
            int b = all.get(r).second;
            return p == a || p == b || before(p, a) || before(p, b);
        }
    }

    public static void main(String[] args) {
        for (int run = 0; run < RUNS; run++) {
            PedigreePeeling x = new PedigreePeeling();
            Model m = new Model();
            for (int i = 0; i < CALLS; i++) {
                call(x, m, "run " + run + ", call " + i + ": ", run % 3);
            }
        }
        for (int run = 0; run < FULL_RUNS; run++) {
            askAll("full run " + run + ": ", run % 3);
        }
        Due.end();
    }

    /** Seven persons in 15 calls, and then every question that has one: 497 more, the last of them the 512th. */
    private static void askAll(String at, int kind) {
        PedigreePeeling x = new PedigreePeeling();
        Model m = new Model();
        for (int p = 0; p < 7; p++) {
            int a = p < 2 ? 0 : below(p);
            int b = p < 2 ? 0 : below(p);
            Due.due(at + "add", a == b ? x.founder() : x.child(a, b), a == b ? m.founder() : m.child(a, b));
        }
        int q = someFrequency(kind);
        Due.due(at + "frequency(" + q + ")", x.frequency(q), m.frequency(q));
        for (int i = 0; i < 7; i++) {
            int p = below(7);
            int g = below(3);
            int s = someSight(kind);
            Due.due(at + "see(" + p + ", " + g + ", " + s + ")", x.see(p, g, s), m.see(p, g, s));
        }
        for (int p = 0; p < 7; p++) {
            for (int g = 0; g < 3; g++) {
                for (int rest = 0; rest < 21; rest++) {
                    ask(x, m, at, 22, new int[] {p, g, rest / 3, rest % 3});
                }
                ask(x, m, at, 19, new int[] {p, g, 0, 0});
            }
            ask(x, m, at, 25, new int[] {p, 0, 0, 0});
            ask(x, m, at, 27, new int[] {p, 0, 0, 0});
        }
        ask(x, m, at, 17, new int[] {0, 0, 0, 0});
    }

    private static int below(int n) {
        seed = seed * 6364136223846793005L + 1442695040888963407L;
        return (int) ((seed >>> 33) % n);
    }

    private static int someone(Model m) {
        int odd = below(40);
        if (odd == 0) {
            return below(2) == 0 ? Integer.MIN_VALUE : Integer.MAX_VALUE;
        }
        return odd == 1 ? below(12) - 3 : below(m.all.size() + (odd < 6 ? 2 : 0) + (m.all.isEmpty() ? 1 : 0));
    }

    private static int someGenotype() {
        return below(20) == 0 ? below(9) - 3 : below(3);
    }

    /** Kind 0 sees little and rarely 0, kind 1 sees anything, kind 2 sees high numbers so that sums wrap. */
    private static int someSight(int kind) {
        if (below(20) == 0) {
            return below(10) - 2;
        }
        return kind == 1 ? below(6) : kind == 2 ? 3 + below(3) : below(9) == 0 ? 0 : 1 + below(2);
    }

    private static int someFrequency(int kind) {
        return below(8) == 0 ? below(23) - 3 : kind == 2 ? 16 * below(2) : 1 + below(15);
    }

    private static void call(PedigreePeeling x, Model m, String at, int kind) {
        int p = someone(m);
        int r = someone(m);
        int g = someGenotype();
        int h = someGenotype();
        int pick = below(32);
        if (pick < 2) {
            Due.due(at + "founder()", x.founder(), m.founder());
        } else if (pick < 6) {
            Due.due(at + "child(" + p + ", " + r + ")", x.child(p, r), m.child(p, r));
        } else if (pick < 8) {
            Due.due(at + "remove()", x.remove(), m.remove());
        } else if (pick < 9) {
            Due.due(at + "persons()", x.persons(), m.all.size());
        } else if (pick < 10) {
            int q = someFrequency(kind);
            Due.due(at + "frequency(" + q + ")", x.frequency(q), m.frequency(q));
        } else if (pick < 15) {
            int s = someSight(kind);
            Due.due(at + "see(" + p + ", " + g + ", " + s + ")", x.see(p, g, s), m.see(p, g, s));
        } else if (pick < 17) {
            Due.due(at + "seen(" + p + ", " + g + ")", x.seen(p, g), m.seen(p, g));
        } else {
            ask(x, m, at, pick, new int[] {p, g, r, h});
        }
    }

    private static void ask(PedigreePeeling x, Model m, String at, int pick, int[] with) {
        int p = with[0];
        int g = with[1];
        int r = with[2];
        int h = with[3];
        if (pick < 19) {
            Due.due(at + "likelihood()", x.likelihood(), m.likelihood());
        } else if (pick < 22) {
            Due.due(at + "share(" + p + ", " + g + ")", x.share(p, g), m.share(p, g));
        } else if (pick < 25) {
            Due.due(at + "shareOfTwo(" + p + ", " + g + ", " + r + ", " + h + ")",
                    x.shareOfTwo(p, g, r, h), m.shareOfTwo(p, g, r, h));
        } else if (pick < 27) {
            Due.due(at + "copies(" + p + ")", x.copies(p), m.copies(p));
        } else if (pick < 30) {
            Due.due(at + "possible(" + p + ")", x.possible(p), m.possible(p));
        } else {
            Due.due(at + "before(" + p + ", " + r + ")", x.before(p, r), m.before(p, r));
        }
    }
}
