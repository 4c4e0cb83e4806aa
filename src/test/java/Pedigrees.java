import java.util.function.ToLongFunction;

/**
 * Pedigrees that the tests of the project share, and what can be asked of one. A test extends it: without a package
 * there is no static import.
 */
abstract class Pedigrees {
    static final int BAD_ARG = -1;
    static final int FULL = -2;
    static final int LEAST = Integer.MIN_VALUE;
    static final int GREATEST = Integer.MAX_VALUE;

    static PedigreePeeling founders(int n) {
        PedigreePeeling x = new PedigreePeeling();
        for (int i = 0; i < n; i++) {
            x.founder();
        }
        return x;
    }

    /** Founders 0 and 1 with the child 2, q = 4: a founder's factors are 144, 96 and 16. */
    static PedigreePeeling trio() {
        PedigreePeeling x = founders(2);
        x.child(0, 1);
        x.frequency(4);
        return x;
    }

    /** Seven persons in four generations, something seen of three of them. */
    static PedigreePeeling family() {
        return family(7);
    }

    /** The first n persons of that family. */
    static PedigreePeeling family(int n) {
        PedigreePeeling x = founders(n < 3 ? n : 3);
        int[][] parents = {{0, 1}, {3, 2}, {1, 4}};
        for (int p = 3; p < n && p < 6; p++) {
            x.child(parents[p - 3][0], parents[p - 3][1]);
        }
        if (n == 7) {
            x.founder();
        }
        x.frequency(5);
        if (n > 0) {
            x.see(0, 2, 3);
        }
        if (n > 3) {
            x.see(3, 1, 4);
        }
        if (n > 5) {
            x.see(5, 2, 0);
        }
        return x;
    }

    static void onlySee(PedigreePeeling x, int p, int g) {
        for (int other = 0; other < 3; other++) {
            x.see(p, other, other == g ? 1 : 0);
        }
    }

    /** All that can be asked of the state, in under 120 calls. */
    static String state(PedigreePeeling x) {
        StringBuilder told = new StringBuilder();
        int q = x.frequency(0);
        x.frequency(q);
        int n = x.persons();
        told.append(n).append(" q").append(q).append(" l").append(x.likelihood());
        for (int p = 0; p < n; p++) {
            told.append(" |").append(x.possible(p)).append(' ').append(x.copies(p));
            for (int g = 0; g < 3; g++) {
                told.append(' ').append(x.seen(p, g)).append(':').append(x.share(p, g));
            }
            for (int r = 0; r < n; r++) {
                told.append(x.before(p, r) ? '<' : '-');
            }
        }
        return told.toString();
    }

    static void refused(String call, PedigreePeeling x, ToLongFunction<PedigreePeeling> made, long want) {
        String earlier = state(x);
        Due.due(call, made.applyAsLong(x), want);
        Due.due("state after the refused " + call, state(x), earlier);
    }
}
