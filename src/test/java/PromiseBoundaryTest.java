/** A test for each sentence of the promises 1 to 14 that names a boundary case; TermsBoundaryTest has the others. */
public final class PromiseBoundaryTest extends Pedigrees {
    private static final int[] NO_GENOTYPE = {-1, 3, 4, LEAST, GREATEST};

    public static void main(String[] args) {
        promises1To3();
        promises4To6();
        promises7And8();
        promises9To11();
        promises12To14();
        Due.end();
    }

    private static void promises1To3() {
        Due.sentence("Promise 1", "No person", PromiseBoundaryTest::newHasNoPerson);
        Due.sentence("Promise 1", "q is 8", PromiseBoundaryTest::newHasQ8);
        Due.sentence("Promise 2", "Adds a founder", PromiseBoundaryTest::founderAddsAFounder);
        Due.sentence("Promise 2", "FULL", PromiseBoundaryTest::founderFull);
        Due.sentence("Promise 2", "else its number", PromiseBoundaryTest::founderNumber);
        Due.sentence("Promise 3", "Adds a person with the parents a and b", PromiseBoundaryTest::childAddsAPerson);
        Due.sentence("Promise 3", "no person a", PromiseBoundaryTest::childWithoutFirst);
        Due.sentence("Promise 3", "or no person b", PromiseBoundaryTest::childWithoutSecond);
        Due.sentence("Promise 3", "or a = b, answers BAD_ARG", PromiseBoundaryTest::childOfOne);
        Due.sentence("Promise 3", "FULL", PromiseBoundaryTest::childFull);
        Due.sentence("Promise 3", "Tested in this order: BAD_ARG; FULL", PromiseBoundaryTest::childOrder);
        Due.sentence("Promise 3", "Otherwise its number", PromiseBoundaryTest::childNumber);
    }

    private static void promises4To6() {
        Due.sentence("Promise 4", "Removes the person with the highest number", PromiseBoundaryTest::removeTakesLast);
        Due.sentence("Promise 4", "BAD_ARG if there is none", PromiseBoundaryTest::removeOfNone);
        Due.sentence("Promise 4", "Otherwise the number it had", PromiseBoundaryTest::removeNumber);
        Due.sentence("Promise 5", "The number of persons", PromiseBoundaryTest::personsFrom0To7);
        Due.sentence("Promise 6", "q becomes this", PromiseBoundaryTest::frequencyBecomes);
        Due.sentence("Promise 6", "BAD_ARG if q is not 0 to 16", PromiseBoundaryTest::frequencyOutOfRange);
        Due.sentence("Promise 6", "otherwise the q before", PromiseBoundaryTest::frequencyBefore);
    }

    private static void promises7And8() {
        Due.sentence("Promise 7", "s(p, g) becomes s", PromiseBoundaryTest::seeBecomes);
        Due.sentence("Promise 7", "BAD_ARG if there is no person p", PromiseBoundaryTest::seeNoPerson);
        Due.sentence("Promise 7", "BAD_ARG if g is not 0 to 2", PromiseBoundaryTest::seeNoGenotype);
        Due.sentence("Promise 7", "BAD_ARG if s not 0 to 5", PromiseBoundaryTest::seeNoSight);
        Due.sentence("Promise 7", "Otherwise what it was before", PromiseBoundaryTest::seeBefore);
        Due.sentence("Promise 8", "s(p, g)", PromiseBoundaryTest::seenEachCell);
        Due.sentence("Promise 8", "BAD_ARG if there is no person p", PromiseBoundaryTest::seenNoPerson);
        Due.sentence("Promise 8", "BAD_ARG if g is not 0 to 2", PromiseBoundaryTest::seenNoGenotype);
    }

    private static void promises9To11() {
        Due.sentence("Promise 9", "The likelihood", PromiseBoundaryTest::likelihoodAtTheEnds);
        Due.sentence("Promise 10", "the assignments in which person p has genotype g",
                PromiseBoundaryTest::shareAtTheEnds);
        Due.sentence("Promise 10", "0 if there is no person p", PromiseBoundaryTest::shareNoPerson);
        Due.sentence("Promise 10", "0 if g is not 0 to 2", PromiseBoundaryTest::shareNoGenotype);
        Due.sentence("Promise 11", "person p has genotype g and person r genotype h",
                PromiseBoundaryTest::shareOfTwoAtTheEnds);
        Due.sentence("Promise 11", "0 if there are no such persons", PromiseBoundaryTest::shareOfTwoNoPerson);
        Due.sentence("Promise 11", "0 if there are no such genotypes", PromiseBoundaryTest::shareOfTwoNoGenotype);
        Due.sentence("Promise 11", "(p and r may be the same)", PromiseBoundaryTest::shareOfTwoOfOne);
    }

    private static void promises12To14() {
        Due.sentence("Promise 12", "the number of copies of form B that person p has",
                PromiseBoundaryTest::copiesAtTheEnds);
        Due.sentence("Promise 12", "0 if there is no person p", PromiseBoundaryTest::copiesNoPerson);
        Due.sentence("Promise 13", "as the sum of 2 to the power g", PromiseBoundaryTest::possibleEachSet);
        Due.sentence("Promise 13", "in some assignment of which no factor of the weight is 0",
                PromiseBoundaryTest::possibleByFactors);
        Due.sentence("Promise 13", "0 if there is no person p", PromiseBoundaryTest::possibleNoPerson);
        Due.sentence("Promise 14", "p is a parent of r", PromiseBoundaryTest::beforeParent);
        Due.sentence("Promise 14", "or a forefather of a parent of r", PromiseBoundaryTest::beforeFarBack);
        Due.sentence("Promise 14", "Whether person p is a forefather of person r",
                PromiseBoundaryTest::beforeNobodyElse);
        Due.sentence("Promise 14", "false if there are no such persons", PromiseBoundaryTest::beforeNoPerson);
    }

    /** Numbers that no one of n persons has; the last three would be 0 if they were cut or used as a shift. */
    private static int[] notAmong(int n) {
        return new int[] {n, n + 1, 7, 8, -1, -2, LEAST, GREATEST, 32, 64, 256};
    }

    private static void newHasNoPerson() {
        Due.due("persons()", new PedigreePeeling().persons(), 0);
        Due.due("remove()", new PedigreePeeling().remove(), BAD_ARG);
        Due.due("seen(0, 0)", new PedigreePeeling().seen(0, 0), BAD_ARG);
        Due.due("founder()", new PedigreePeeling().founder(), 0);
        Due.due("likelihood()", new PedigreePeeling().likelihood(), 1);
        family();
        Due.due("persons() of a new object beside a full one", new PedigreePeeling().persons(), 0);
    }

    private static void newHasQ8() {
        Due.due("frequency(0)", new PedigreePeeling().frequency(0), 8);
        PedigreePeeling x = founders(1);
        Due.due("share(0, 0)", x.share(0, 0), 64);
        Due.due("share(0, 1)", x.share(0, 1), 128);
        Due.due("share(0, 2)", x.share(0, 2), 64);
        x.frequency(3);
        Due.due("frequency(0) of a new object beside one with q = 3", new PedigreePeeling().frequency(0), 8);
    }

    private static void founderAddsAFounder() {
        for (int n = 0; n < 7; n++) {
            PedigreePeeling x = family(n);
            long others = x.likelihood();
            x.founder();
            Due.due("persons() after " + n, x.persons(), n + 1);
            Due.due("likelihood() after " + n, x.likelihood(), 256 * others);
            Due.due("share(n, 2) for q = 5 after " + n, x.share(n, 2), 25 * others);
            for (int p = 0; p < n; p++) {
                Due.due("before(" + p + ", " + n + ")", x.before(p, n), false);
            }
        }
        PedigreePeeling x = founders(6);
        x.child(0, 5);
        x.remove();
        x.founder();
        Due.due("before(0, 6) with 6 a child once", x.before(0, 6), false);
        Due.due("likelihood() with 6 a child once", x.likelihood(), 1L << 56);
    }

    private static void founderFull() {
        PedigreePeeling x = founders(7);
        refused("founder() of 7 founders", x, y -> y.founder(), FULL);
        refused("founder() of 7 founders, again", x, y -> y.founder(), FULL);
        refused("founder() of a family of 7", family(), y -> y.founder(), FULL);
        x.remove();
        Due.due("founder() with one removed", x.founder(), 6);
        Due.due("founder() of 7 once more", x.founder(), FULL);
    }

    private static void founderNumber() {
        PedigreePeeling x = new PedigreePeeling();
        for (int n = 0; n < 7; n++) {
            Due.due("founder() of " + n, x.founder(), n);
        }
        for (int n = 0; n < 7; n++) {
            Due.due("founder() of a family of " + n, family(n).founder(), n);
        }
    }

    private static void childAddsAPerson() {
        for (int n = 2; n < 7; n++) {
            for (int a = 0; a < n; a++) {
                for (int b = 0; b < n; b++) {
                    if (a != b) {
                        childOf(n, a, b);
                    }
                }
            }
        }
    }

    private static void childOf(int n, int a, int b) {
        PedigreePeeling x = founders(n);
        x.child(a, b);
        String at = " of child(" + a + ", " + b + ") after " + n;
        Due.due("persons()" + at, x.persons(), n + 1);
        Due.due("likelihood()" + at, x.likelihood(), 4L << (8 * n));
        for (int p = 0; p < n; p++) {
            Due.due("before(" + p + ", " + n + ")" + at, x.before(p, n), p == a || p == b);
            onlySee(x, p, p == a || p == b ? 2 : 0);
        }
        Due.due("possible(" + n + ")" + at + ", these two alone BB", x.possible(n), 4);
    }

    private static void childWithoutFirst() {
        for (int n = 0; n <= 7; n++) {
            for (int a : notAmong(n)) {
                refused("child(" + a + ", 0) of " + n, family(n), x -> x.child(a, 0), BAD_ARG);
            }
        }
    }

    private static void childWithoutSecond() {
        for (int n = 0; n <= 7; n++) {
            for (int b : notAmong(n)) {
                refused("child(0, " + b + ") of " + n, family(n), x -> x.child(0, b), BAD_ARG);
            }
        }
    }

    private static void childOfOne() {
        for (int n = 1; n <= 7; n++) {
            int last = n - 1;
            refused("child(0, 0) of " + n, family(n), x -> x.child(0, 0), BAD_ARG);
            refused("child(last, last) of " + n, family(n), x -> x.child(last, last), BAD_ARG);
        }
    }

    private static void childFull() {
        refused("child(0, 1) of 7 founders", founders(7), x -> x.child(0, 1), FULL);
        for (int a = 0; a < 7; a++) {
            for (int b = 0; b < 7; b++) {
                if (a != b) {
                    Due.due("child(" + a + ", " + b + ") of 7", family().child(a, b), FULL);
                }
            }
        }
        refused("child(6, 5) of a family of 7", family(), x -> x.child(6, 5), FULL);
        PedigreePeeling x = family();
        x.remove();
        Due.due("child(0, 1) with one removed", x.child(0, 1), 6);
        Due.due("child(0, 1) of 7 once more", x.child(0, 1), FULL);
    }

    private static void childOrder() {
        refused("child(7, 0) of 7", family(), x -> x.child(7, 0), BAD_ARG);
        refused("child(0, 7) of 7", family(), x -> x.child(0, 7), BAD_ARG);
        refused("child(-1, 0) of 7", family(), x -> x.child(-1, 0), BAD_ARG);
        refused("child(0, -1) of 7", family(), x -> x.child(0, -1), BAD_ARG);
        refused("child(6, 6) of 7", family(), x -> x.child(6, 6), BAD_ARG);
        refused("child(0, 0) of 7", family(), x -> x.child(0, 0), BAD_ARG);
        refused("child(7, 7) of 7", family(), x -> x.child(7, 7), BAD_ARG);
    }

    private static void childNumber() {
        for (int n = 2; n < 7; n++) {
            Due.due("child(1, 0) of a family of " + n, family(n).child(1, 0), n);
        }
        PedigreePeeling x = founders(2);
        for (int n = 2; n < 7; n++) {
            Due.due("child(" + (n - 2) + ", " + (n - 1) + ")", x.child(n - 2, n - 1), n);
        }
    }

    private static void removeTakesLast() {
        for (int n = 1; n <= 7; n++) {
            PedigreePeeling x = family(n);
            x.remove();
            Due.due("state of a family of " + n + " with one removed", state(x), state(family(n - 1)));
            Due.due("seen of the removed", x.seen(n - 1, 0), BAD_ARG);
        }
    }

    private static void removeOfNone() {
        refused("remove() of a new object", new PedigreePeeling(), x -> x.remove(), BAD_ARG);
        PedigreePeeling x = founders(1);
        x.remove();
        refused("remove() with the only person gone", x, y -> y.remove(), BAD_ARG);
        refused("remove() once more", x, y -> y.remove(), BAD_ARG);
        Due.due("founder() after refused removals", x.founder(), 0);
        Due.due("remove() of that one", x.remove(), 0);
    }

    private static void removeNumber() {
        PedigreePeeling f = founders(7);
        PedigreePeeling c = family();
        for (int p = 6; p >= 0; p--) {
            Due.due("remove() of a founder", f.remove(), p);
            Due.due("remove() of a family's last", c.remove(), p);
        }
    }

    private static void personsFrom0To7() {
        for (int n = 0; n <= 7; n++) {
            Due.due("persons() of a family of " + n, family(n).persons(), n);
        }
        PedigreePeeling x = founders(7);
        x.founder();
        x.child(0, 1);
        Due.due("persons() of 7 after two refusals", x.persons(), 7);
        for (int n = 6; n >= 0; n--) {
            x.remove();
            Due.due("persons() with one removed", x.persons(), n);
        }
        x.remove();
        Due.due("persons() of none after a refusal", x.persons(), 0);
    }

    private static void frequencyBecomes() {
        for (int q = 0; q <= 16; q++) {
            PedigreePeeling x = founders(1);
            x.frequency(q);
            Due.due("share(0, 0) for q = " + q, x.share(0, 0), (16 - q) * (16 - q));
            Due.due("share(0, 1) for q = " + q, x.share(0, 1), 2 * q * (16 - q));
            Due.due("share(0, 2) for q = " + q, x.share(0, 2), q * q);
            Due.due("likelihood() for q = " + q, x.likelihood(), 256);
        }
        PedigreePeeling x = new PedigreePeeling();
        x.frequency(16);
        x.founder();
        Due.due("share(0, 2) of a founder added later", x.share(0, 2), 256);
    }

    private static void frequencyOutOfRange() {
        for (int q : new int[] {-1, 17, -2, 18, 32, 256, -256, LEAST, LEAST + 8, GREATEST}) {
            for (int n = 0; n <= 7; n += 7) {
                refused("frequency(" + q + ") of " + n, family(n), x -> x.frequency(q), BAD_ARG);
            }
        }
    }

    private static void frequencyBefore() {
        PedigreePeeling x = new PedigreePeeling();
        int[] all = {0, 16, 0, 0, 16, 16, 1, 15, 8};
        int last = 8;
        for (int q : all) {
            Due.due("frequency(" + q + ")", x.frequency(q), last);
            Due.due("frequency(17) between", x.frequency(17), BAD_ARG);
            last = q;
        }
        x.founder();
        x.remove();
        Due.due("frequency(2) after founder() and remove()", x.frequency(2), 8);
    }

    private static void seeBecomes() {
        for (int s = 0; s <= 5; s++) {
            for (int p = 0; p < 7; p += 6) {
                for (int g = 0; g < 3; g += 2) {
                    PedigreePeeling x = founders(7);
                    long share = x.share(p, g);
                    x.see(p, g, s);
                    Due.due("seen(" + p + ", " + g + ") after " + s, x.seen(p, g), s);
                    Due.due("share(" + p + ", " + g + ") after " + s, x.share(p, g), s * share);
                    Due.due("share(3, 1) after " + s, x.share(3, 1), ((1L << 56) + (s - 1) * share) / 2);
                }
            }
        }
    }

    private static void seeNoPerson() {
        for (int n = 0; n <= 7; n++) {
            for (int p : notAmong(n)) {
                refused("see(" + p + ", 2, 5) of " + n, family(n), x -> x.see(p, 2, 5), BAD_ARG);
            }
        }
        PedigreePeeling x = founders(3);
        x.remove();
        Due.due("see(2, 0, 5) with 2 removed", x.see(2, 0, 5), BAD_ARG);
        x.founder();
        Due.due("seen(2, 0) of the next person 2", x.seen(2, 0), 1);
    }

    private static void seeNoGenotype() {
        for (int g : NO_GENOTYPE) {
            for (int p = 0; p < 7; p++) {
                int who = p;
                refused("see(" + p + ", " + g + ", 5)", family(), x -> x.see(who, g, 5), BAD_ARG);
            }
        }
    }

    private static void seeNoSight() {
        for (int s : new int[] {-1, 6, 7, -5, 256, LEAST, GREATEST}) {
            for (int p = 0; p < 7; p++) {
                int who = p;
                refused("see(" + p + ", 1, " + s + ")", family(), x -> x.see(who, 1, s), BAD_ARG);
            }
        }
    }

    private static void seeBefore() {
        for (int p = 0; p < 7; p++) {
            for (int g = 0; g < 3; g++) {
                PedigreePeeling x = founders(7);
                Due.due("see(" + p + ", " + g + ", 0) at first", x.see(p, g, 0), 1);
                Due.due("see(" + p + ", " + g + ", 5) after 0", x.see(p, g, 5), 0);
                Due.due("see(" + p + ", " + g + ", 6) after 5", x.see(p, g, 6), BAD_ARG);
                Due.due("see(" + p + ", " + g + ", 5) after 5", x.see(p, g, 5), 5);
                Due.due("see(" + p + ", " + g + ", 0) after 5", x.see(p, g, 0), 5);
                Due.due("see(" + p + ", " + g + ", 0) after 0", x.see(p, g, 0), 0);
            }
        }
    }

    private static void seenEachCell() {
        PedigreePeeling x = founders(7);
        for (int p = 0; p < 7; p++) {
            for (int g = 0; g < 3; g++) {
                x.see(p, g, (5 * p + 2 * g) % 6);
            }
        }
        for (int p = 0; p < 7; p++) {
            for (int g = 0; g < 3; g++) {
                Due.due("seen(" + p + ", " + g + ")", x.seen(p, g), (5 * p + 2 * g) % 6);
            }
        }
    }

    private static void seenNoPerson() {
        for (int n = 0; n <= 7; n++) {
            for (int p : notAmong(n)) {
                refused("seen(" + p + ", 2) of " + n, family(n), x -> x.seen(p, 2), BAD_ARG);
            }
        }
    }

    private static void seenNoGenotype() {
        for (int g : NO_GENOTYPE) {
            for (int p = 0; p < 7; p++) {
                int who = p;
                refused("seen(" + p + ", " + g + ")", family(), x -> x.seen(who, g), BAD_ARG);
            }
        }
    }

    private static void likelihoodAtTheEnds() {
        Due.due("likelihood() of none", new PedigreePeeling().likelihood(), 1);
        for (int n = 1; n <= 7; n++) {
            Due.due("likelihood() of " + n, founders(n).likelihood(), 1L << (8 * n));
        }
        PedigreePeeling x = family();
        onlySee(x, 0, 0);
        onlySee(x, 1, 0);
        onlySee(x, 3, 2);
        Due.due("likelihood() of what cannot be", x.likelihood(), 0);
        PedigreePeeling wide = founders(7);
        wide.frequency(16);
        for (int p = 0; p < 7; p++) {
            wide.see(p, 2, 3);
        }
        Due.due("likelihood() of 2187 times 2 to the 56", wide.likelihood(), -117L << 56);
    }

    private static void shareAtTheEnds() {
        PedigreePeeling x = trio();
        long[] due = {147456, 98304, 16384};
        for (int g = 0; g < 3; g++) {
            Due.due("share(0, " + g + ")", x.share(0, g), due[g]);
            Due.due("share(2, " + g + ")", x.share(2, g), due[g]);
        }
        x.frequency(0);
        Due.due("share(2, 0) for q = 0", x.share(2, 0), 262144);
        Due.due("share(2, 1) for q = 0", x.share(2, 1), 0);
        x.frequency(16);
        Due.due("share(2, 1) for q = 16", x.share(2, 1), 0);
        Due.due("share(2, 2) for q = 16", x.share(2, 2), 262144);
        Due.due("share(6, 1) of 7", founders(7).share(6, 1), 1L << 55);
    }

    private static void shareNoPerson() {
        for (int n = 0; n <= 7; n++) {
            for (int p : notAmong(n)) {
                Due.due("share(" + p + ", 0) of " + n, family(n).share(p, 0), 0);
            }
        }
        PedigreePeeling x = founders(2);
        x.remove();
        Due.due("share(1, 0) with 1 removed", x.share(1, 0), 0);
    }

    private static void shareNoGenotype() {
        for (int g : NO_GENOTYPE) {
            for (int p = 0; p < 7; p++) {
                Due.due("share(" + p + ", " + g + ")", family().share(p, g), 0);
            }
        }
    }

    private static void shareOfTwoAtTheEnds() {
        long[] factor = {64, 128, 64};
        for (int g = 0; g < 3; g++) {
            for (int h = 0; h < 3; h++) {
                long due = (factor[g] * factor[h]) << 40;
                PedigreePeeling x = founders(7);
                Due.due("shareOfTwo(0, " + g + ", 6, " + h + ")", x.shareOfTwo(0, g, 6, h), due);
                Due.due("shareOfTwo(6, " + g + ", 0, " + h + ")", x.shareOfTwo(6, g, 0, h), due);
            }
        }
        Due.due("shareOfTwo(0, 0, 2, 2) of parent and child", trio().shareOfTwo(0, 0, 2, 2), 0);
        Due.due("shareOfTwo(2, 0, 0, 2) of child and parent", trio().shareOfTwo(2, 0, 0, 2), 0);
        Due.due("shareOfTwo(0, 1, 2, 0) of parent and child", trio().shareOfTwo(0, 1, 2, 0), 36864);
    }

    private static void shareOfTwoNoPerson() {
        for (int n = 0; n <= 7; n++) {
            for (int p : notAmong(n)) {
                PedigreePeeling x = family(n);
                Due.due("shareOfTwo(" + p + ", 0, 0, 0) of " + n, x.shareOfTwo(p, 0, 0, 0), 0);
                Due.due("shareOfTwo(0, 0, " + p + ", 0) of " + n, x.shareOfTwo(0, 0, p, 0), 0);
                Due.due("shareOfTwo(" + p + ", 0, " + p + ", 0) of " + n, x.shareOfTwo(p, 0, p, 0), 0);
            }
        }
    }

    private static void shareOfTwoNoGenotype() {
        for (int g : NO_GENOTYPE) {
            PedigreePeeling x = family();
            Due.due("shareOfTwo(1, " + g + ", 6, 0)", x.shareOfTwo(1, g, 6, 0), 0);
            Due.due("shareOfTwo(1, 0, 6, " + g + ")", x.shareOfTwo(1, 0, 6, g), 0);
            Due.due("shareOfTwo(1, " + g + ", 6, " + g + ")", x.shareOfTwo(1, g, 6, g), 0);
            Due.due("shareOfTwo(1, " + g + ", 1, " + g + ")", x.shareOfTwo(1, g, 1, g), 0);
            Due.due("shareOfTwo(1, 0, 1, " + g + ")", x.shareOfTwo(1, 0, 1, g), 0);
        }
    }

    private static void shareOfTwoOfOne() {
        for (int p = 0; p < 7; p++) {
            PedigreePeeling x = family();
            for (int g = 0; g < 3; g++) {
                for (int h = 0; h < 3; h++) {
                    long due = g == h ? x.share(p, g) : 0;
                    Due.due("shareOfTwo(" + p + ", " + g + ", " + p + ", " + h + ")", x.shareOfTwo(p, g, p, h), due);
                }
            }
        }
        Due.due("shareOfTwo(2, 1, 2, 1) of the trio", trio().shareOfTwo(2, 1, 2, 1), 98304);
    }

    private static void copiesAtTheEnds() {
        long[] due = {0, 128, 128};
        for (int g = 0; g < 3; g++) {
            PedigreePeeling x = founders(7);
            onlySee(x, 6, g);
            Due.due("copies(6) with genotype " + g + " alone", x.copies(6), due[g] << 48);
        }
        PedigreePeeling x = trio();
        Due.due("copies(2)", x.copies(2), 131072);
        x.frequency(0);
        Due.due("copies(2) for q = 0", x.copies(2), 0);
        x.frequency(16);
        Due.due("copies(2) for q = 16", x.copies(2), 524288);
        x.see(0, 2, 0);
        Due.due("copies(2) of what cannot be", x.copies(2), 0);
    }

    private static void copiesNoPerson() {
        for (int n = 0; n <= 7; n++) {
            for (int p : notAmong(n)) {
                Due.due("copies(" + p + ") of " + n, family(n).copies(p), 0);
            }
        }
    }

    private static void possibleEachSet() {
        for (int p = 0; p < 7; p++) {
            for (int set = 0; set < 8; set++) {
                PedigreePeeling x = founders(7);
                for (int g = 0; g < 3; g++) {
                    x.see(p, g, (set >> g) % 2 == 0 ? 0 : 5);
                }
                Due.due("possible(" + p + ")", x.possible(p), set);
                Due.due("possible of another person", x.possible(6 - p == p ? 0 : 6 - p), set == 0 ? 0 : 7);
            }
        }
    }

    private static void possibleByFactors() {
        PedigreePeeling x = founders(7);
        x.frequency(16);
        for (int p = 0; p < 7; p++) {
            x.see(p, 2, 4);
        }
        Due.due("likelihood() of 2 to the 70", x.likelihood(), 0);
        Due.due("possible(0) of weight 2 to the 70", x.possible(0), 4);
        Due.due("possible(6) of weight 2 to the 70", x.possible(6), 4);
        x.frequency(0);
        Due.due("possible(6) for q = 0", x.possible(6), 1);
        x.frequency(8);
        Due.due("possible(6) for q = 8", x.possible(6), 7);
        PedigreePeeling t = trio();
        onlySee(t, 0, 0);
        Due.due("possible(2) of an AA parent", t.possible(2), 3);
        onlySee(t, 1, 2);
        Due.due("possible(2) of AA and BB", t.possible(2), 2);
        t.see(2, 1, 0);
        Due.due("possible(2) of AA and BB, not AB", t.possible(2), 0);
        Due.due("possible(0) with no assignment left", t.possible(0), 0);
    }

    private static void possibleNoPerson() {
        for (int n = 0; n <= 7; n++) {
            for (int p : notAmong(n)) {
                Due.due("possible(" + p + ") of " + n, family(n).possible(p), 0);
            }
        }
    }

    private static void beforeParent() {
        for (int n = 2; n < 7; n++) {
            PedigreePeeling x = founders(n);
            x.child(n - 1, 0);
            Due.due("before(first parent, " + n + ")", x.before(n - 1, n), true);
            Due.due("before(second parent, " + n + ")", x.before(0, n), true);
        }
    }

    /** The line goes through the first parent, then through the second; the other parent is a founder or not in it. */
    private static void beforeFarBack() {
        PedigreePeeling first = founders(2);
        PedigreePeeling second = founders(2);
        for (int c = 2; c < 7; c++) {
            first.child(c - 1, c == 2 ? 0 : 1);
            second.child(c == 2 ? 0 : 1, c - 1);
        }
        for (int r = 2; r < 7; r++) {
            Due.due("before(0, " + r + ") through first parents", first.before(0, r), true);
            Due.due("before(0, " + r + ") through second parents", second.before(0, r), true);
            Due.due("before(2, " + r + ") through first parents", first.before(2, r), r > 2);
            Due.due("before(2, " + r + ") through second parents", second.before(2, r), r > 2);
        }
    }

    private static void beforeNobodyElse() {
        PedigreePeeling x = family();
        for (int p = 0; p < 7; p++) {
            Due.due("before(" + p + ", " + p + "), itself", x.before(p, p), false);
            Due.due("before(" + p + ", 6), no kin", x.before(p, 6), false);
            Due.due("before(6, " + p + "), no kin", x.before(6, p), false);
        }
        Due.due("before(3, 0), a child", x.before(3, 0), false);
        Due.due("before(5, 0), a child's child", x.before(5, 0), false);
        Due.due("before(0, 1), a mate", x.before(0, 1), false);
        Due.due("before(2, 3), a child's other parent", x.before(2, 3), false);
        PedigreePeeling kin = founders(2);
        kin.child(0, 1);
        kin.child(0, 1);
        Due.due("before(2, 3), a brother", kin.before(2, 3), false);
    }

    private static void beforeNoPerson() {
        for (int n = 0; n <= 7; n++) {
            for (int p : notAmong(n)) {
                PedigreePeeling x = family(n);
                Due.due("before(" + p + ", 3) of " + n, x.before(p, 3), false);
                Due.due("before(0, " + p + ") of " + n, x.before(0, p), false);
                Due.due("before(" + p + ", " + p + ") of " + n, x.before(p, p), false);
            }
        }
        PedigreePeeling x = trio();
        x.remove();
        Due.due("before(0, 2) with the child removed", x.before(0, 2), false);
        Due.due("before(2, 0) with the child removed", x.before(2, 0), false);
    }
}
