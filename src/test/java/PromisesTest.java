/** One method a promise, with answers worked out by hand from the document. */
public final class PromisesTest extends Pedigrees {
    public static void main(String[] args) {
        promise1NewObject();
        promise2Founder();
        promise3Child();
        promise4Remove();
        promise5Persons();
        promise6Frequency();
        promise7See();
        promise8Seen();
        promise9Likelihood();
        promise10Share();
        promise11ShareOfTwo();
        promise12Copies();
        promise13Possible();
        promise14Before();
        sumsWrap();
        Due.end();
    }

    private static void promise1NewObject() {
        PedigreePeeling x = new PedigreePeeling();
        Due.due("1: persons()", x.persons(), 0);
        Due.due("1: likelihood()", x.likelihood(), 1);
        Due.due("1: frequency(8)", x.frequency(8), 8);
        PedigreePeeling one = founders(1);
        PedigreePeeling other = new PedigreePeeling();
        Due.due("1: persons() of a second object", other.persons(), 0);
        one.frequency(3);
        Due.due("1: frequency of a second object", other.frequency(1), 8);
    }

    private static void promise2Founder() {
        PedigreePeeling x = new PedigreePeeling();
        for (int i = 0; i < 7; i++) {
            Due.due("2: founder()", x.founder(), i);
            Due.due("2: persons()", x.persons(), i + 1);
        }
        refused("2: founder() of 7", x, y -> y.founder(), FULL);
        Due.due("2: founder() of 7, again", x.founder(), FULL);
        refused("2: founder() of a family of 7", family(), y -> y.founder(), FULL);
        PedigreePeeling f = founders(6);
        f.child(0, 5);
        f.remove();
        Due.due("2: founder() after a child was removed", f.founder(), 6);
        Due.due("2: it has no parents", f.before(0, 6) || f.before(5, 6), false);
        Due.due("2: it weighs as a founder", f.likelihood(), 1L << 56);
    }

    private static void promise3Child() {
        PedigreePeeling x = founders(2);
        Due.due("3: child(1, 0)", x.child(1, 0), 2);
        Due.due("3: child(2, 0)", x.child(2, 0), 3);
        Due.due("3: persons()", x.persons(), 4);
        Due.due("3: a parent of 2", x.before(1, 2) && x.before(0, 2), true);
        int[][] wrong = {{0, 0}, {1, 1}, {2, 2}, {0, 2}, {2, 0}, {2, 3}, {-1, 0}, {0, -1}, {-1, -2}, {7, 0}, {0, 7},
                {LEAST, 0}, {0, LEAST}, {GREATEST, 1}, {1, GREATEST}};
        for (int[] w : wrong) {
            refused("3: child(" + w[0] + ", " + w[1] + ") of 2", founders(2), y -> y.child(w[0], w[1]), BAD_ARG);
        }
        refused("3: child(0, 1) of none", new PedigreePeeling(), y -> y.child(0, 1), BAD_ARG);
        refused("3: child(0, 1) of 7", family(), y -> y.child(0, 1), FULL);
        refused("3: child(0, 6) of 7", family(), y -> y.child(0, 6), FULL);
        refused("3: child(3, 3) of 7", family(), y -> y.child(3, 3), BAD_ARG);
        refused("3: child(0, 7) of 7", family(), y -> y.child(0, 7), BAD_ARG);
        refused("3: child(-1, 0) of 7", family(), y -> y.child(-1, 0), BAD_ARG);
        PedigreePeeling f = founders(3);
        f.remove();
        Due.due("3: child of a removed person", f.child(0, 2), BAD_ARG);
        childFactors();
    }

    private static void childFactors() {
        long[][] ways = {
            {4, 0, 0}, {2, 2, 0}, {0, 4, 0},
            {2, 2, 0}, {1, 2, 1}, {0, 2, 2},
            {0, 4, 0}, {0, 2, 2}, {0, 0, 4}};
        long[] founder = {64, 128, 64};
        for (int a = 0; a < 3; a++) {
            for (int b = 0; b < 3; b++) {
                PedigreePeeling x = founders(2);
                x.child(0, 1);
                onlySee(x, 0, a);
                onlySee(x, 1, b);
                for (int g = 0; g < 3; g++) {
                    Due.due("3: child " + g + " of " + a + " and " + b, x.share(2, g),
                            founder[a] * founder[b] * ways[3 * a + b][g]);
                }
            }
        }
    }

    private static void promise4Remove() {
        refused("4: remove() of none", new PedigreePeeling(), y -> y.remove(), BAD_ARG);
        PedigreePeeling x = trio();
        x.see(2, 0, 5);
        Due.due("4: remove()", x.remove(), 2);
        Due.due("4: persons()", x.persons(), 2);
        Due.due("4: likelihood() without the child", x.likelihood(), 65536);
        Due.due("4: seen of the removed", x.seen(2, 0), BAD_ARG);
        Due.due("4: before the removed", x.before(0, 2), false);
        Due.due("4: founder()", x.founder(), 2);
        Due.due("4: seen of the new person 2", x.seen(2, 0), 1);
        Due.due("4: before the new person 2", x.before(0, 2), false);
        Due.due("4: remove()", x.remove(), 2);
        Due.due("4: remove()", x.remove(), 1);
        Due.due("4: remove()", x.remove(), 0);
        Due.due("4: remove() of none left", x.remove(), BAD_ARG);
        Due.due("4: likelihood() of none left", x.likelihood(), 1);
        Due.due("4: q stays", x.frequency(4), 4);
        PedigreePeeling full = founders(7);
        Due.due("4: remove() of 7", full.remove(), 6);
        Due.due("4: founder() again", full.founder(), 6);
        PedigreePeeling kept = trio();
        kept.see(1, 2, 3);
        kept.remove();
        Due.due("4: what was seen of others stays", kept.seen(1, 2), 3);
    }

    private static void promise5Persons() {
        PedigreePeeling x = new PedigreePeeling();
        Due.due("5: persons()", x.persons(), 0);
        x.founder();
        x.founder();
        Due.due("5: persons()", x.persons(), 2);
        x.child(0, 1);
        Due.due("5: persons()", x.persons(), 3);
        x.child(0, 0);
        Due.due("5: persons() after a refusal", x.persons(), 3);
        x.remove();
        Due.due("5: persons()", x.persons(), 2);
        Due.due("5: persons() of 7", family().persons(), 7);
    }

    private static void promise6Frequency() {
        PedigreePeeling x = founders(1);
        int last = 8;
        for (int q = 0; q <= 16; q++) {
            Due.due("6: frequency(" + q + ")", x.frequency(q), last);
            Due.due("6: share(0, 0) for q " + q, x.share(0, 0), (16 - q) * (16 - q));
            Due.due("6: share(0, 1) for q " + q, x.share(0, 1), 2 * q * (16 - q));
            Due.due("6: share(0, 2) for q " + q, x.share(0, 2), q * q);
            last = q;
        }
        for (int q : new int[] {-1, 17, LEAST, GREATEST}) {
            refused("6: frequency(" + q + ")", family(), y -> y.frequency(q), BAD_ARG);
        }
    }

    private static void promise7See() {
        PedigreePeeling x = founders(7);
        int last = 1;
        for (int s = 0; s <= 5; s++) {
            Due.due("7: see(6, 2, " + s + ")", x.see(6, 2, s), last);
            Due.due("7: see(0, 0, " + s + ")", x.see(0, 0, s), last);
            last = s;
        }
        Due.due("7: seen(6, 1) beside it", x.seen(6, 1), 1);
        Due.due("7: seen(5, 2) beside it", x.seen(5, 2), 1);
        Due.due("7: seen(0, 1) beside it", x.seen(0, 1), 1);
        Due.due("7: seen(1, 0) beside it", x.seen(1, 0), 1);
        int[][] wrong = {{3, 0, 1}, {-1, 0, 1}, {LEAST, 0, 1}, {GREATEST, 0, 1}, {0, 3, 1}, {0, -1, 1}, {1, -1, 1},
                {0, LEAST, 1}, {0, GREATEST, 1}, {0, 0, 6}, {0, 0, -1}, {0, 0, LEAST}, {0, 0, GREATEST}};
        for (int[] w : wrong) {
            refused("7: see(" + w[0] + ", " + w[1] + ", " + w[2] + ") of 3", trio(),
                    y -> y.see(w[0], w[1], w[2]), BAD_ARG);
        }
        refused("7: see(7, 0, 1) of 7", family(), y -> y.see(7, 0, 1), BAD_ARG);
        refused("7: see(0, 0, 1) of none", new PedigreePeeling(), y -> y.see(0, 0, 1), BAD_ARG);
    }

    private static void promise8Seen() {
        PedigreePeeling x = founders(7);
        for (int p = 0; p < 7; p++) {
            for (int g = 0; g < 3; g++) {
                Due.due("8: seen at first", x.seen(p, g), 1);
                x.see(p, g, (p + 2 * g) % 6);
            }
        }
        for (int p = 0; p < 7; p++) {
            for (int g = 0; g < 3; g++) {
                Due.due("8: seen(" + p + ", " + g + ")", x.seen(p, g), (p + 2 * g) % 6);
            }
        }
        int[][] wrong = {{3, 0}, {7, 0}, {-1, 0}, {LEAST, 0}, {GREATEST, 0}, {0, 3}, {0, -1}, {1, -1}, {0, LEAST},
                {0, GREATEST}};
        for (int[] w : wrong) {
            refused("8: seen(" + w[0] + ", " + w[1] + ") of 3", trio(), y -> y.seen(w[0], w[1]), BAD_ARG);
        }
        Due.due("8: seen(0, 0) of none", new PedigreePeeling().seen(0, 0), BAD_ARG);
        Due.due("8: seen(7, 0) of 7", x.seen(7, 0), BAD_ARG);
        for (int g = 0; g < 3; g++) {
            PedigreePeeling again = trio();
            again.see(2, g, 0);
            again.remove();
            again.child(1, 0);
            Due.due("8: seen of a child with a removed person's number", again.seen(2, g), 1);
        }
    }

    private static void promise9Likelihood() {
        Due.due("9: likelihood() of none", new PedigreePeeling().likelihood(), 1);
        Due.due("9: likelihood() of 1", founders(1).likelihood(), 256);
        PedigreePeeling x = trio();
        Due.due("9: likelihood() of the trio", x.likelihood(), 262144);
        x.see(0, 0, 2);
        x.see(0, 1, 3);
        x.see(0, 2, 5);
        // 256 * 4 * (2 * 144 + 3 * 96 + 5 * 16)
        Due.due("9: likelihood() with person 0 seen", x.likelihood(), 671744);
        onlySee(x, 2, 0);
        // share(2, 0) with weights 288, 288, 80 and 144, 96, 16: (2 * 288 + 288) * (2 * 144 + 96)
        Due.due("9: likelihood() with a child seen to be 0", x.likelihood(), 331776);
        x.see(2, 0, 0);
        Due.due("9: likelihood() of the impossible", x.likelihood(), 0);
        PedigreePeeling gone = founders(1);
        gone.see(0, 0, 0);
        gone.frequency(0);
        gone.remove();
        Due.due("9: likelihood() of none left", gone.likelihood(), 1);
    }

    private static void promise10Share() {
        PedigreePeeling x = trio();
        // A founder passes on A in 2 * 144 + 96 = 384 and B in 96 + 2 * 16 = 128 parts of 512.
        Due.due("10: share(2, 0)", x.share(2, 0), 147456);
        Due.due("10: share(2, 1)", x.share(2, 1), 98304);
        Due.due("10: share(2, 2)", x.share(2, 2), 16384);
        Due.due("10: share(0, 0)", x.share(0, 0), 147456);
        onlySee(x, 2, 2);
        Due.due("10: share(0, 0) of a BB child's parent", x.share(0, 0), 0);
        Due.due("10: share(0, 1) of a BB child's parent", x.share(0, 1), 12288);
        Due.due("10: share(1, 2) of a BB child's parent", x.share(1, 2), 4096);
        int[][] wrong = {{3, 0}, {7, 0}, {-1, 0}, {LEAST, 0}, {GREATEST, 0}, {0, 3}, {0, -1}, {1, -1}, {0, LEAST},
                {0, GREATEST}};
        for (int[] w : wrong) {
            Due.due("10: share(" + w[0] + ", " + w[1] + ") of 3", trio().share(w[0], w[1]), 0);
        }
        Due.due("10: share(0, 0) of none", new PedigreePeeling().share(0, 0), 0);
        Due.due("10: share(-1, 0) of none", new PedigreePeeling().share(-1, 0), 0);
    }

    private static void promise11ShareOfTwo() {
        PedigreePeeling x = trio();
        Due.due("11: shareOfTwo(0, 0, 1, 2)", x.shareOfTwo(0, 0, 1, 2), 9216);
        Due.due("11: shareOfTwo(0, 2, 1, 0)", x.shareOfTwo(0, 2, 1, 0), 9216);
        Due.due("11: shareOfTwo(0, 1, 2, 0)", x.shareOfTwo(0, 1, 2, 0), 36864);
        Due.due("11: shareOfTwo(2, 0, 0, 1)", x.shareOfTwo(2, 0, 0, 1), 36864);
        Due.due("11: shareOfTwo(0, 0, 2, 2)", x.shareOfTwo(0, 0, 2, 2), 0);
        Due.due("11: shareOfTwo(2, 1, 2, 1)", x.shareOfTwo(2, 1, 2, 1), 98304);
        Due.due("11: shareOfTwo(2, 1, 2, 0)", x.shareOfTwo(2, 1, 2, 0), 0);
        for (int w : new int[] {3, 7, -1, LEAST, GREATEST}) {
            Due.due("11: shareOfTwo(" + w + ", 0, 1, 0)", x.shareOfTwo(w, 0, 1, 0), 0);
            Due.due("11: shareOfTwo(1, 0, " + w + ", 0)", x.shareOfTwo(1, 0, w, 0), 0);
            Due.due("11: shareOfTwo(" + w + ", 0, " + w + ", 0)", x.shareOfTwo(w, 0, w, 0), 0);
            Due.due("11: shareOfTwo(0, " + w + ", 1, 0)", x.shareOfTwo(0, w, 1, 0), 0);
            Due.due("11: shareOfTwo(0, 0, 1, " + w + ")", x.shareOfTwo(0, 0, 1, w), 0);
            Due.due("11: shareOfTwo(0, " + w + ", 0, " + w + ")", x.shareOfTwo(0, w, 0, w), 0);
        }
        Due.due("11: shareOfTwo of none", new PedigreePeeling().shareOfTwo(0, 0, 0, 0), 0);
        Due.due("11: shareOfTwo(-1, 0, -1, 0) of none", new PedigreePeeling().shareOfTwo(-1, 0, -1, 0), 0);
    }

    private static void promise12Copies() {
        PedigreePeeling x = trio();
        Due.due("12: copies(0)", x.copies(0), 131072);
        Due.due("12: copies(2)", x.copies(2), 131072);
        x.see(2, 1, 3);
        x.see(2, 2, 5);
        Due.due("12: copies(2) with it seen", x.copies(2), 458752);
        x.frequency(0);
        Due.due("12: copies(2) without form B", x.copies(2), 0);
        x.frequency(16);
        Due.due("12: copies(2) with form B alone", x.copies(2), 2621440);
        for (int p : new int[] {3, 7, -1, LEAST, GREATEST}) {
            Due.due("12: copies(" + p + ") of 3", x.copies(p), 0);
        }
        Due.due("12: copies(0) of none", new PedigreePeeling().copies(0), 0);
    }

    private static void promise13Possible() {
        PedigreePeeling x = trio();
        Due.due("13: possible(0)", x.possible(0), 7);
        Due.due("13: possible(2)", x.possible(2), 7);
        onlySee(x, 0, 2);
        Due.due("13: possible(0) seen to be 2", x.possible(0), 4);
        Due.due("13: possible(1) beside a BB parent", x.possible(1), 7);
        Due.due("13: possible(2) of a BB parent", x.possible(2), 6);
        onlySee(x, 2, 1);
        Due.due("13: possible(1) of an AB child and BB mate", x.possible(1), 3);
        x.frequency(16);
        Due.due("13: possible(1) with form B alone", x.possible(1), 0);
        Due.due("13: possible(2) with form B alone", x.possible(2), 0);
        x.see(2, 2, 1);
        Due.due("13: possible(2) with BB not ruled out", x.possible(2), 4);
        PedigreePeeling f = founders(2);
        f.frequency(0);
        Due.due("13: possible(0) without form B", f.possible(0), 1);
        f.frequency(8);
        f.see(1, 0, 0);
        Due.due("13: possible(1) without genotype 0", f.possible(1), 6);
        f.see(1, 1, 0);
        f.see(1, 2, 0);
        Due.due("13: possible(0) beside an impossible person", f.possible(0), 0);
        f.remove();
        Due.due("13: possible(0) with that person removed", f.possible(0), 7);
        for (int p : new int[] {3, 7, -1, LEAST, GREATEST}) {
            Due.due("13: possible(" + p + ") of 3", trio().possible(p), 0);
        }
        Due.due("13: possible(0) of none", new PedigreePeeling().possible(0), 0);
    }

    private static void promise14Before() {
        PedigreePeeling x = family();
        String[] lines = {"0001110", "0001110", "0000110", "0000110", "0000010", "0000000", "0000000"};
        for (int p = 0; p < 7; p++) {
            for (int r = 0; r < 7; r++) {
                Due.due("14: before(" + p + ", " + r + ")", x.before(p, r), lines[p].charAt(r) == '1');
            }
        }
        PedigreePeeling chain = founders(2);
        for (int c = 2; c < 7; c++) {
            chain.child(c - 1, c - 2);
        }
        Due.due("14: before(0, 6) through five generations", chain.before(0, 6), true);
        Due.due("14: before(6, 0)", chain.before(6, 0), false);
        int[][] wrong = {{0, 3}, {3, 0}, {0, 7}, {-1, 2}, {2, -1}, {-1, -1}, {LEAST, 2}, {0, GREATEST}, {32, 2},
                {0, 34}, {3, 4}};
        for (int[] w : wrong) {
            Due.due("14: before(" + w[0] + ", " + w[1] + ") of 3", trio().before(w[0], w[1]), false);
        }
        Due.due("14: before(0, 1) of none", new PedigreePeeling().before(0, 1), false);
        PedigreePeeling again = founders(4);
        again.remove();
        again.child(1, 2);
        Due.due("14: before(0, 3) of other parents", again.before(0, 3), false);
        Due.due("14: before(1, 3) of the first parent", again.before(1, 3), true);
        Due.due("14: before(2, 3) of the second parent", again.before(2, 3), true);
    }

    /** 'Terms': longs wrap, and a weight that wraps to 0 still has no factor 0. */
    private static void sumsWrap() {
        PedigreePeeling x = founders(7);
        x.frequency(16);
        for (int p = 0; p < 7; p++) {
            x.see(p, 2, 3);
        }
        Due.due("wrap: likelihood()", x.likelihood(), 2187L << 56);
        Due.due("wrap: share(6, 2)", x.share(6, 2), 2187L << 56);
        Due.due("wrap: shareOfTwo(0, 2, 6, 2)", x.shareOfTwo(0, 2, 6, 2), 2187L << 56);
        Due.due("wrap: copies(3)", x.copies(3), 2187L << 57);
        for (int p = 0; p < 7; p++) {
            x.see(p, 2, 4);
        }
        Due.due("wrap: likelihood() of 2 to the 70", x.likelihood(), 0);
        for (int p = 0; p < 7; p++) {
            Due.due("wrap: possible(" + p + ") of weight 2 to the 70", x.possible(p), 4);
        }
    }
}
