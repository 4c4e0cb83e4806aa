/** 'before' of each two persons in each of the 177723 pedigrees of seven persons (promises 2, 3, 4 and 14). */
public final class EveryPedigreeTest {
    private static final int PERSONS = 7;

    private static PedigreePeeling x = new PedigreePeeling();
    private static int calls = 0;
    private static int pedigrees = 0;
    // For each person of the pedigree at hand its parents, or twice the same number for a founder.
    private static final int[] first = new int[PERSONS];
    private static final int[] second = new int[PERSONS];
    private static final boolean[][] kin = new boolean[PERSONS][PERSONS];

    public static void main(String[] args) {
        visit(0);
        Due.due("pedigrees", pedigrees, 177723);
        Due.end();
    }

    private static void visit(int p) {
        if (p == PERSONS) {
            pedigrees++;
            askOfEachTwo();
            return;
        }
        for (int a = 0; a < Math.max(p, 1); a++) {
            for (int b = 0; b < Math.max(p, 1); b++) {
                // One founder, not one for each a = b.
                if (a != b || a == 0) {
                    add(p, a, b);
                    visit(p + 1);
                    take();
                }
            }
        }
    }

    private static void add(int p, int a, int b) {
        first[p] = a;
        second[p] = b;
        for (int f = 0; f < p; f++) {
            kin[f][p] = a != b && (f == a || f == b || kin[f][a] || kin[f][b]);
        }
        Due.due("number", a == b ? x.founder() : x.child(a, b), p);
        calls++;
    }

    private static void take() {
        x.remove();
        calls++;
    }

    private static void askOfEachTwo() {
        anewIfUsedUp();
        for (int p = 0; p < PERSONS; p++) {
            for (int r = 0; r < PERSONS; r++) {
                if (x.before(p, r) != (p < r && kin[p][r])) {
                    Due.tell(told() + ": before(" + p + ", " + r + ") answered " + x.before(p, r));
                }
            }
        }
        calls += PERSONS * PERSONS;
    }

    /** An object is promised 512 calls, so each is used for a part of the pedigrees and then made again. */
    private static void anewIfUsedUp() {
        if (calls < 400) {
            return;
        }
        x = new PedigreePeeling();
        calls = 0;
        for (int p = 0; p < PERSONS; p++) {
            add(p, first[p], second[p]);
        }
    }

    private static String told() {
        StringBuilder all = new StringBuilder();
        for (int p = 0; p < PERSONS; p++) {
            all.append(first[p] == second[p] ? " founder" : " child(" + first[p] + ", " + second[p] + ")");
        }
        return all.toString();
    }
}
