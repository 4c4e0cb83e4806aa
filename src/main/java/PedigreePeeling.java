public final class PedigreePeeling {
    public static final int BAD_ARG = -1;
    public static final int FULL = -2;

    private static final int MOST_PERSONS = 7;
    private static final int GENOTYPES = 3;
    private static final int SIGHTS = MOST_PERSONS * GENOTYPES;
    private static final int MOST_SIGHT = 5;
    private static final int FORMS = 16;
    private static final int NOBODY = -1;

    private int count = 0;
    private int formB = 8;
    private final int[] firstParent = new int[MOST_PERSONS];
    private final int[] secondParent = new int[MOST_PERSONS];
    private final int[] sight = new int[SIGHTS];
    // The assignment that a sum is looking at; between calls it means nothing.
    private final int[] genotype = new int[MOST_PERSONS];

    public PedigreePeeling() {
    }

    public int founder() {
        return add(NOBODY, NOBODY);
    }

    public int child(int a, int b) {
        if (!isPerson(a) || !isPerson(b) || a == b) {
            return BAD_ARG;
        }
        return add(a, b);
    }

    public int remove() {
        if (count == 0) {
            return BAD_ARG;
        }
        count--;
        return count;
    }

    public int persons() {
        return count;
    }

    public int frequency(int q) {
        if (q < 0 || q > FORMS) {
            return BAD_ARG;
        }
        int old = formB;
        formB = q;
        return old;
    }

    public int see(int p, int g, int s) {
        if (!isPerson(p) || !isGenotype(g) || s < 0 || s > MOST_SIGHT) {
            return BAD_ARG;
        }
        int cell = p * GENOTYPES + g;
        int old = sight[cell];
        sight[cell] = s;
        return old;
    }

    public int seen(int p, int g) {
        if (!isPerson(p) || !isGenotype(g)) {
            return BAD_ARG;
        }
        return sight[p * GENOTYPES + g];
    }

    public long likelihood() {
        return sumOfWeights(NOBODY, 0, NOBODY, 0);
    }

    public long share(int p, int g) {
        if (!isPerson(p) || !isGenotype(g)) {
            return 0;
        }
        return sumOfWeights(p, g, NOBODY, 0);
    }

    public long shareOfTwo(int p, int g, int r, int h) {
        if (!isPerson(p) || !isGenotype(g) || !isPerson(r) || !isGenotype(h)) {
            return 0;
        }
        return sumOfWeights(p, g, r, h);
    }

    public long copies(int p) {
        if (!isPerson(p)) {
            return 0;
        }
        long withOne = sumOfWeights(p, 1, NOBODY, 0);
        long withTwo = sumOfWeights(p, 2, NOBODY, 0);
        return withOne + 2 * withTwo;
    }

    public int possible(int p) {
        if (!isPerson(p)) {
            return 0;
        }
        int found = 0;
        int end = assignments();
        for (int n = 0; n < end; n++) {
            assign(n);
            if (noFactorIsZero()) {
                found |= 1 << genotype[p];
            }
        }
        return found;
    }

    public boolean before(int p, int r) {
        if (!isPerson(p) || !isPerson(r) || p >= r) {
            return false;
        }
        // Parents have smaller numbers, so one pass upward meets every parent before its children.
        int line = 1 << p;
        for (int c = p + 1; c <= r; c++) {
            if (hasParentIn(c, line)) {
                line |= 1 << c;
            }
        }
        return (line & (1 << r)) != 0;
    }

    private boolean isPerson(int p) {
        return p >= 0 && p < count;
    }

    private static boolean isGenotype(int g) {
        return g >= 0 && g < GENOTYPES;
    }

    private int add(int a, int b) {
        if (count >= MOST_PERSONS) {
            return FULL;
        }
        int p = count;
        firstParent[p] = a;
        secondParent[p] = b;
        // A removed person may have had this number: what was seen of it must not pass on.
        for (int g = 0; g < GENOTYPES; g++) {
            sight[p * GENOTYPES + g] = 1;
        }
        count++;
        return p;
    }

    private boolean isFounder(int p) {
        return firstParent[p] == NOBODY;
    }

    private boolean hasParentIn(int c, int set) {
        if (isFounder(c)) {
            return false;
        }
        int parents = (1 << firstParent[c]) | (1 << secondParent[c]);
        return (parents & set) != 0;
    }

    private int assignments() {
        int n = 1;
        for (int p = 0; p < count; p++) {
            n *= GENOTYPES;
        }
        return n;
    }

    private void assign(int n) {
        int rest = n;
        for (int p = 0; p < count; p++) {
            genotype[p] = rest % GENOTYPES;
            rest /= GENOTYPES;
        }
    }

    // NOBODY in place of p or r asks nothing, so one sum serves the likelihood and both shares.
    private long sumOfWeights(int p, int g, int r, int h) {
        long sum = 0;
        int end = assignments();
        for (int n = 0; n < end; n++) {
            assign(n);
            if (fits(p, g) && fits(r, h)) {
                sum += weight();
            }
        }
        return sum;
    }

    private boolean fits(int p, int g) {
        return p < 0 || genotype[p] == g;
    }

    private long weight() {
        long product = 1;
        for (int p = 0; p < count; p++) {
            product *= factor(p);
        }
        return product;
    }

    // Not weight() != 0: a product of factors that are not 0 can wrap to 0.
    private boolean noFactorIsZero() {
        for (int p = 0; p < count; p++) {
            if (factor(p) == 0) {
                return false;
            }
        }
        return true;
    }

    // At most 256 times 5: the two factors of one person cannot wrap to 0.
    private int factor(int p) {
        int g = genotype[p];
        int ways;
        if (isFounder(p)) {
            ways = founderWays(g);
        } else {
            int a = genotype[firstParent[p]];
            int b = genotype[secondParent[p]];
            ways = childWays(g, a, b);
        }
        return ways * sight[p * GENOTYPES + g];
    }

    private int founderWays(int g) {
        int formA = FORMS - formB;
        if (g == 0) {
            return formA * formA;
        }
        if (g == 1) {
            return 2 * formB * formA;
        }
        return formB * formB;
    }

    private static int childWays(int g, int a, int b) {
        if (g == 0) {
            return (2 - a) * (2 - b);
        }
        if (g == 1) {
            return a * (2 - b) + (2 - a) * b;
        }
        return a * b;
    }
}
