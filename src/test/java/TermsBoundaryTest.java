import java.util.ArrayList;
import java.util.List;
import java.util.function.ToLongFunction;

/** A test for each sentence before the promises that names a boundary case; PromiseBoundaryTest has the promises'. */
public final class TermsBoundaryTest extends Pedigrees {
    private static final int[] FAR_AND_NEAR = {LEAST, LEAST + 1, -256, -33, -8, -3, -2, -1, 0, 1, 2, 3, 4, 5, 6, 7, 8,
        15, 16, 17, 31, 32, 33, 256, GREATEST - 1, GREATEST};
    private static final int[] SOME = {LEAST, -32, -3, -1, 0, 1, 2, 3, 6, 7, 32, GREATEST};

    /** A call with its name and the answer due. */
    private static final class Call {
        final String name;
        final ToLongFunction<PedigreePeeling> made;
        final long want;

        Call(String name, ToLongFunction<PedigreePeeling> made, long want) {
            this.name = name;
            this.made = made;
            this.want = want;
        }
    }

    public static void main(String[] args) {
        usedFor512Calls();
        face();
        persons();
        numbers();
        sums();
        everyCall();
        Due.end();
    }

    private static void usedFor512Calls() {
        String words = "An object is used for at most 512 calls after it has been made";
        Due.sentence("What it is", words, TermsBoundaryTest::each512thCallAnswers);
        Due.sentence("What it is", words, TermsBoundaryTest::oneQuestionAllTheTime);
        Due.sentence("What it is", words, TermsBoundaryTest::all512CallsChangeTheState);
        Due.sentence("What it is", words, TermsBoundaryTest::refusedCallsBeforeThe512th);
    }

    private static void face() {
        Due.sentence("The public face", "BAD_ARG = -1; FULL = -2", TermsBoundaryTest::constants);
        Due.sentence("Terms", "FULL = -2: There are 7 persons", TermsBoundaryTest::fullIsSevenAndNoFewer);
        Due.sentence("Terms", "BAD_ARG = -1: An argument is out of its range", TermsBoundaryTest::firstAndLastInRange);
    }

    private static void persons() {
        Due.sentence("Terms", "PERSONS are numbered 0, 1, .. in the order in which they are added",
                TermsBoundaryTest::numberedInOrder);
        Due.sentence("Terms", "PERSONS are numbered ..., at most 7", TermsBoundaryTest::atMostSeven);
        Due.sentence("Terms", "two PARENTS, two different persons", TermsBoundaryTest::parentsDiffer);
        Due.sentence("Terms", "two different persons with smaller numbers", TermsBoundaryTest::parentsAreSmaller);
    }

    private static void numbers() {
        Due.sentence("Terms", "A GENOTYPE is 0, 1 or 2", TermsBoundaryTest::genotypes);
        Due.sentence("Terms", "The form frequencies are given by a number q from 0 to 16",
                TermsBoundaryTest::frequencies);
        Due.sentence("Terms", "An ASSIGNMENT gives every person a genotype", TermsBoundaryTest::firstAndLastAssignment);
        Due.sentence("Terms", "for a founder with genotype g", TermsBoundaryTest::founderFactorsAtTheEnds);
        Due.sentence("Terms", "for a person with genotype g and parents with genotypes a and b",
                TermsBoundaryTest::childFactorsAtTheEnds);
        Due.sentence("Terms", "SEEN of p: a number s(p, g) from 0 to 5", TermsBoundaryTest::sights);
        Due.sentence("Terms", "s(p, g): 1 for all three at first", TermsBoundaryTest::sightsAtFirst);
    }

    private static void sums() {
        String words = "All sums and products are those of Java longs (they wrap)";
        Due.sentence("Terms", words, TermsBoundaryTest::noWrapInsideLongs);
        Due.sentence("Terms", words, TermsBoundaryTest::productsWrap);
        Due.sentence("Terms", words, TermsBoundaryTest::sumsWrap);
        Due.sentence("Terms", words, TermsBoundaryTest::copiesWrap);
        Due.sentence("Terms", words, TermsBoundaryTest::wrapToZero);
        Due.sentence("Terms", "The LIKELIHOOD is 1 if there is no person", TermsBoundaryTest::emptyAssignment);
    }

    private static void everyCall() {
        Due.sentence("Terms", "No call ever throws", TermsBoundaryTest::nothingThrows);
        Due.sentence("Terms", "A refused call answers the code named and changes nothing",
                TermsBoundaryTest::refusedCallsLeaveNoTrace);
        Due.sentence("Not promised", "Nothing is promised beyond the answers and state changes described above",
                TermsBoundaryTest::questionsLeaveNoTrace);
    }

    private static List<Call> changesOfTheTrio() {
        List<Call> calls = new ArrayList<>();
        calls.add(new Call("founder()", x -> x.founder(), 3));
        calls.add(new Call("child(0, 2)", x -> x.child(0, 2), 3));
        calls.add(new Call("remove()", x -> x.remove(), 2));
        calls.add(new Call("frequency(5)", x -> x.frequency(5), 4));
        calls.add(new Call("see(2, 1, 5)", x -> x.see(2, 1, 5), 1));
        return calls;
    }

    private static List<Call> questionsToTheTrio() {
        List<Call> calls = new ArrayList<>();
        calls.add(new Call("persons()", x -> x.persons(), 3));
        calls.add(new Call("seen(2, 1)", x -> x.seen(2, 1), 1));
        calls.add(new Call("likelihood()", x -> x.likelihood(), 262144));
        calls.add(new Call("share(2, 1)", x -> x.share(2, 1), 98304));
        calls.add(new Call("shareOfTwo(0, 0, 1, 2)", x -> x.shareOfTwo(0, 0, 1, 2), 9216));
        calls.add(new Call("copies(2)", x -> x.copies(2), 131072));
        calls.add(new Call("possible(2)", x -> x.possible(2), 7));
        calls.add(new Call("before(0, 2)", x -> x.before(0, 2) ? 1 : 0, 1));
        return calls;
    }

    private static void each512thCallAnswers() {
        List<Call> calls = changesOfTheTrio();
        calls.addAll(questionsToTheTrio());
        for (Call last : calls) {
            PedigreePeeling x = trio();
            // Four calls made the trio.
            for (int i = 4; i < 511; i++) {
                switch (i % 5) {
                    case 0 -> Due.due("call " + i + ": persons()", x.persons(), 3);
                    case 1 -> Due.due("call " + i + ": child(0, 0)", x.child(0, 0), BAD_ARG);
                    case 2 -> Due.due("call " + i + ": see(0, 0, 1)", x.see(0, 0, 1), 1);
                    case 3 -> Due.due("call " + i + ": frequency(4)", x.frequency(4), 4);
                    default -> Due.due("call " + i + ": likelihood()", x.likelihood(), 262144);
                }
            }
            Due.due("the 512th call " + last.name, last.made.applyAsLong(x), last.want);
        }
    }

    private static void oneQuestionAllTheTime() {
        for (Call question : questionsToTheTrio()) {
            PedigreePeeling x = trio();
            for (int i = 4; i < 512; i++) {
                Due.due("call " + i + ": " + question.name, question.made.applyAsLong(x), question.want);
            }
        }
    }

    private static void all512CallsChangeTheState() {
        PedigreePeeling added = new PedigreePeeling();
        PedigreePeeling born = founders(2);
        PedigreePeeling seen = founders(1);
        PedigreePeeling q = new PedigreePeeling();
        for (int i = 0; i < 256; i++) {
            Due.due("founder(), call " + 2 * i, added.founder(), 0);
            Due.due("remove(), call " + (2 * i + 1), added.remove(), 0);
        }
        for (int i = 1; i < 256; i++) {
            Due.due("child(0, 1), call " + 2 * i, born.child(0, 1), 2);
            Due.due("remove(), call " + (2 * i + 1), born.remove(), 2);
        }
        for (int i = 1; i < 512; i++) {
            Due.due("see, call " + i, seen.see(0, 2, i % 6), i == 1 ? 1 : (i - 1) % 6);
        }
        for (int i = 0; i < 512; i++) {
            Due.due("frequency, call " + i, q.frequency(i % 17), i == 0 ? 8 : (i - 1) % 17);
        }
    }

    private static void refusedCallsBeforeThe512th() {
        PedigreePeeling full = founders(7);
        PedigreePeeling none = new PedigreePeeling();
        for (int i = 7; i < 511; i++) {
            Due.due("founder() of 7, call " + i, full.founder(), FULL);
        }
        Due.due("remove() as the 512th call", full.remove(), 6);
        for (int i = 0; i < 511; i++) {
            Due.due("remove() of none, call " + i, none.remove(), BAD_ARG);
        }
        Due.due("founder() as the 512th call", none.founder(), 0);
    }

    private static void constants() {
        Due.due("BAD_ARG", PedigreePeeling.BAD_ARG, -1);
        Due.due("FULL", PedigreePeeling.FULL, -2);
    }

    private static void fullIsSevenAndNoFewer() {
        Due.due("founder() of 6", family(6).founder(), 6);
        Due.due("child(4, 5) of 6", family(6).child(4, 5), 6);
        Due.due("founder() of 7", family(7).founder(), -2);
        Due.due("child(4, 5) of 7", family(7).child(4, 5), -2);
        Due.due("remove() of 7", family(7).remove(), 6);
        Due.due("see(6, 0, 5) of 7", family(7).see(6, 0, 5), 1);
        Due.due("frequency(8) of 7", family(7).frequency(8), 5);
    }

    private static void firstAndLastInRange() {
        for (int n = 2; n < 7; n++) {
            Due.due("child(0, last) of " + n, founders(n).child(0, n - 1), n);
            Due.due("child(last, 0) of " + n, founders(n).child(n - 1, 0), n);
            Due.due("child(0, last + 1) of " + n, founders(n).child(0, n), -1);
            Due.due("child(last + 1, 0) of " + n, founders(n).child(n, 0), -1);
        }
        for (int n = 1; n <= 7; n++) {
            Due.due("seen(0, 0) of " + n, founders(n).seen(0, 0), 1);
            Due.due("seen(last, 2) of " + n, founders(n).seen(n - 1, 2), 1);
            Due.due("see(last, 2, 5) of " + n, founders(n).see(n - 1, 2, 5), 1);
            Due.due("seen(last + 1, 0) of " + n, founders(n).seen(n, 0), -1);
            Due.due("see(last + 1, 0, 0) of " + n, founders(n).see(n, 0, 0), -1);
            Due.due("see(-1, 2, 0) of " + n, founders(n).see(-1, 2, 0), -1);
        }
    }

    private static void numberedInOrder() {
        PedigreePeeling x = new PedigreePeeling();
        Due.due("1st: founder()", x.founder(), 0);
        Due.due("2nd: founder()", x.founder(), 1);
        Due.due("3rd: child(0, 1)", x.child(0, 1), 2);
        Due.due("4th: founder()", x.founder(), 3);
        Due.due("5th: child(3, 2)", x.child(3, 2), 4);
        Due.due("a refused child(4, 4)", x.child(4, 4), BAD_ARG);
        Due.due("6th: child(4, 0)", x.child(4, 0), 5);
        Due.due("7th: founder()", x.founder(), 6);
        Due.due("remove()", x.remove(), 6);
        Due.due("remove()", x.remove(), 5);
        Due.due("6th again: founder()", x.founder(), 5);
        Due.due("7th again: child(5, 0)", x.child(5, 0), 6);
    }

    private static void atMostSeven() {
        PedigreePeeling f = founders(7);
        PedigreePeeling c = founders(2);
        for (int p = 2; p < 7; p++) {
            Due.due("child(0, 1)", c.child(0, 1), p);
        }
        Due.due("an 8th by founder() after founders", f.founder(), FULL);
        Due.due("an 8th by child(0, 1) after founders", f.child(0, 1), FULL);
        Due.due("an 8th by founder() after children", c.founder(), FULL);
        Due.due("an 8th by child(5, 6) after children", c.child(5, 6), FULL);
        Due.due("persons() of 7 founders", f.persons(), 7);
        Due.due("persons() of 2 founders and 5 children", c.persons(), 7);
    }

    private static void parentsDiffer() {
        for (int n = 1; n <= 7; n++) {
            for (int p = 0; p < n; p++) {
                int same = p;
                refused("child(" + p + ", " + p + ") of " + n, family(n), x -> x.child(same, same), BAD_ARG);
            }
        }
    }

    private static void parentsAreSmaller() {
        for (int n = 0; n < 7; n++) {
            for (int a = 0; a <= n + 1; a++) {
                for (int b = 0; b <= n + 1; b++) {
                    int want = a != b && a < n && b < n ? n : BAD_ARG;
                    Due.due("child(" + a + ", " + b + ") of " + n, family(n).child(a, b), want);
                }
            }
        }
        PedigreePeeling x = founders(3);
        x.remove();
        Due.due("child(2, 0) with 2 removed", x.child(2, 0), BAD_ARG);
        Due.due("child(0, 2) with 2 removed", x.child(0, 2), BAD_ARG);
    }

    private static void genotypes() {
        PedigreePeeling x = family();
        long all = x.likelihood();
        for (int p = 0; p < 7; p++) {
            Due.due("shares of " + p, x.share(p, 0) + x.share(p, 1) + x.share(p, 2), all);
        }
        Due.due("possible of a free founder", x.possible(6), 7);
        for (int g : new int[] {-1, 3}) {
            Due.due("see(1, " + g + ", 0)", x.see(1, g, 0), BAD_ARG);
            Due.due("seen(1, " + g + ")", x.seen(1, g), BAD_ARG);
            Due.due("share(1, " + g + ")", x.share(1, g), 0);
            Due.due("shareOfTwo(1, " + g + ", 2, 0)", x.shareOfTwo(1, g, 2, 0), 0);
            Due.due("shareOfTwo(1, 0, 2, " + g + ")", x.shareOfTwo(1, 0, 2, g), 0);
        }
        for (int g = 0; g < 3; g++) {
            Due.due("see(1, " + g + ", 2)", x.see(1, g, 2), 1);
            Due.due("seen(1, " + g + ")", x.seen(1, g), 2);
        }
    }

    private static void frequencies() {
        PedigreePeeling x = founders(1);
        Due.due("frequency(0)", x.frequency(0), 8);
        Due.due("frequency(-1)", x.frequency(-1), BAD_ARG);
        Due.due("frequency(16)", x.frequency(16), 0);
        Due.due("frequency(17)", x.frequency(17), BAD_ARG);
        Due.due("frequency(1)", x.frequency(1), 16);
        Due.due("frequency(15)", x.frequency(15), 1);
        Due.due("frequency(15) again", x.frequency(15), 15);
    }

    private static void firstAndLastAssignment() {
        for (int g = 0; g < 3; g++) {
            PedigreePeeling x = founders(7);
            for (int p = 0; p < 7; p++) {
                onlySee(x, p, g);
            }
            long want = g == 1 ? 1L << 49 : 1L << 42;
            Due.due("likelihood() of seven with genotype " + g, x.likelihood(), want);
            Due.due("share(0, " + g + ")", x.share(0, g), want);
            Due.due("shareOfTwo(0, " + g + ", 6, " + g + ")", x.shareOfTwo(0, g, 6, g), want);
            Due.due("copies(6)", x.copies(6), g * want);
            Due.due("possible(6)", x.possible(6), 1 << g);
        }
    }

    private static void founderFactorsAtTheEnds() {
        long[][] factors = {{0, 256, 0, 0}, {1, 225, 30, 1}, {8, 64, 128, 64}, {15, 1, 30, 225}, {16, 0, 0, 256}};
        for (long[] f : factors) {
            for (int p = 0; p < 7; p += 6) {
                PedigreePeeling x = founders(7);
                x.frequency((int) f[0]);
                for (int g = 0; g < 3; g++) {
                    Due.due("share(" + p + ", " + g + ") for q = " + f[0], x.share(p, g), f[g + 1] << 48);
                }
            }
        }
    }

    private static void childFactorsAtTheEnds() {
        int[][] ways = {{0, 0, 4, 0, 0}, {0, 2, 0, 4, 0}, {2, 0, 0, 4, 0}, {2, 2, 0, 0, 4}, {0, 1, 2, 2, 0},
            {1, 0, 2, 2, 0}, {1, 2, 0, 2, 2}, {2, 1, 0, 2, 2}, {1, 1, 1, 2, 1}};
        long[] founder = {64, 128, 64};
        for (int[] w : ways) {
            PedigreePeeling x = founders(2);
            x.child(0, 1);
            onlySee(x, 0, w[0]);
            onlySee(x, 1, w[1]);
            for (int g = 0; g < 3; g++) {
                Due.due("share(2, " + g + ") of parents " + w[0] + " and " + w[1], x.share(2, g),
                        founder[w[0]] * founder[w[1]] * w[g + 2]);
                boolean can = (x.possible(2) & (1 << g)) != 0;
                Due.due("possible " + g + " of parents " + w[0] + " and " + w[1], can, w[g + 2] != 0);
            }
        }
    }

    private static void sights() {
        for (int p = 0; p < 7; p++) {
            for (int g = 0; g < 3; g++) {
                PedigreePeeling x = founders(7);
                long share = x.share(p, g);
                Due.due("see(" + p + ", " + g + ", -1)", x.see(p, g, -1), BAD_ARG);
                Due.due("see(" + p + ", " + g + ", 6)", x.see(p, g, 6), BAD_ARG);
                Due.due("see(" + p + ", " + g + ", 0)", x.see(p, g, 0), 1);
                Due.due("share seen 0 times", x.share(p, g), 0);
                Due.due("see(" + p + ", " + g + ", 5)", x.see(p, g, 5), 0);
                Due.due("share seen 5 times", x.share(p, g), 5 * share);
                Due.due("likelihood with it", x.likelihood(), (1L << 56) + 4 * share);
                Due.due("see(" + p + ", " + g + ", 1)", x.see(p, g, 1), 5);
            }
        }
    }

    private static void sightsAtFirst() {
        for (int p = 2; p < 7; p++) {
            PedigreePeeling x = founders(p);
            x.founder();
            threeOnes("a founder " + p, x, p);
            x.see(p, 0, 0);
            x.see(p, 1, 2);
            x.see(p, 2, 5);
            x.remove();
            x.child(0, 1);
            threeOnes("a child in the place of a founder " + p, x, p);
            x.see(p, 0, 5);
            x.see(p, 1, 0);
            x.see(p, 2, 3);
            x.remove();
            x.founder();
            threeOnes("a founder in the place of a child " + p, x, p);
        }
    }

    private static void threeOnes(String whose, PedigreePeeling x, int p) {
        for (int g = 0; g < 3; g++) {
            Due.due("seen(p, " + g + ") of " + whose, x.seen(p, g), 1);
        }
    }

    private static void noWrapInsideLongs() {
        PedigreePeeling x = founders(7);
        Due.due("likelihood() past an int", x.likelihood(), 1L << 56);
        x.frequency(15);
        x.see(0, 2, 5);
        // 225 to the 7th is below 2 to the 55.
        long one = 225L * 225 * 225 * 225 * 225 * 225;
        Due.due("shareOfTwo past an int", x.shareOfTwo(0, 2, 6, 2), (225L * 225 * 5) << 40);
        for (int p = 1; p < 7; p++) {
            onlySee(x, p, 2);
        }
        Due.due("share(0, 2) past an int", x.share(0, 2), 5 * 225 * one);
        Due.due("copies(0) past an int", x.copies(0), 10 * 225 * one + 30 * one);
    }

    /** One assignment has a weight, and it is 256 to the 7th (2 to the 56) times what was seen. */
    private static PedigreePeeling formBAlone(int... seen) {
        PedigreePeeling x = founders(7);
        x.frequency(16);
        for (int p = 0; p < seen.length; p++) {
            x.see(p, 2, seen[p]);
        }
        return x;
    }

    private static void productsWrap() {
        Due.due("127 or less: 5 * 5 * 5", formBAlone(5, 5, 5).likelihood(), 125L << 56);
        Due.due("to the least long: 4 * 4 * 4 * 2", formBAlone(4, 4, 4, 2).likelihood(), Long.MIN_VALUE);
        Due.due("to below 0: 3 to the 7th", formBAlone(3, 3, 3, 3, 3, 3, 3).likelihood(), -117L << 56);
        Due.due("past 0 again: 5 to the 7th", formBAlone(5, 5, 5, 5, 5, 5, 5).likelihood(), 45L << 56);
        PedigreePeeling x = formBAlone(3, 3, 3, 3, 3, 3, 3);
        Due.due("share(6, 2) to below 0", x.share(6, 2), -117L << 56);
        Due.due("shareOfTwo(0, 2, 6, 2) to below 0", x.shareOfTwo(0, 2, 6, 2), -117L << 56);
    }

    /** No weight reaches 2 to the 63 here (the greatest is 2 to the 49 times 192), but their sum does. */
    private static void sumsWrap() {
        PedigreePeeling x = founders(7);
        int[] seen = {3, 4, 4, 4};
        for (int p = 0; p < seen.length; p++) {
            for (int g = 0; g < 3; g++) {
                x.see(p, g, seen[p]);
            }
        }
        Due.due("likelihood() of 192 times 2 to the 56", x.likelihood(), -64L << 56);
        Due.due("share(6, 1), half of it", x.share(6, 1), 96L << 56);
        x.see(6, 1, 3);
        Due.due("share(6, 1), three halves of it", x.share(6, 1), 32L << 56);
        Due.due("shareOfTwo(6, 1, 6, 1)", x.shareOfTwo(6, 1, 6, 1), 32L << 56);
        Due.due("shareOfTwo(5, 1, 6, 1), a half of that", x.shareOfTwo(5, 1, 6, 1), 144L << 56);
    }

    private static void copiesWrap() {
        PedigreePeeling x = formBAlone(4, 4, 4);
        Due.due("share(0, 2) of 2 to the 62", x.share(0, 2), 1L << 62);
        Due.due("copies(0), twice that", x.copies(0), Long.MIN_VALUE);
        Due.due("copies(6), twice 3 to the 7th", formBAlone(3, 3, 3, 3, 3, 3, 3).copies(6), 22L << 56);
        Due.due("copies(6), twice 2 to the 63", formBAlone(4, 4, 4, 2).copies(6), 0);
    }

    private static void wrapToZero() {
        PedigreePeeling x = formBAlone(4, 4, 4, 4);
        Due.due("likelihood() of 2 to the 64", x.likelihood(), 0);
        Due.due("share(0, 2) of 2 to the 64", x.share(0, 2), 0);
        Due.due("shareOfTwo(0, 2, 1, 2) of 2 to the 64", x.shareOfTwo(0, 2, 1, 2), 0);
        Due.due("copies(0) of 2 to the 65", x.copies(0), 0);
    }

    private static void emptyAssignment() {
        Due.due("likelihood() of a new object", new PedigreePeeling().likelihood(), 1);
        for (int q = 0; q <= 16; q++) {
            PedigreePeeling x = new PedigreePeeling();
            x.frequency(q);
            Due.due("likelihood() of none for q = " + q, x.likelihood(), 1);
        }
        PedigreePeeling x = family();
        for (int i = 0; i < 7; i++) {
            x.remove();
        }
        Due.due("likelihood() with all seven removed", x.likelihood(), 1);
        x.remove();
        Due.due("likelihood() after a refused remove()", x.likelihood(), 1);
    }

    private static boolean isAmong(int p, int n) {
        return p >= 0 && p < n;
    }

    /** The code is due where it is refused; an answer of 0 or more where it is not. */
    private static void answers(String call, long got, boolean refused, long code) {
        if (refused ? got != code : got < 0) {
            Due.tell(call + " answered " + got + (refused ? ", due is " + code : ", due is no code"));
        }
    }

    private static void nothingThrows() {
        for (int n = 0; n <= 7; n++) {
            for (int p : FAR_AND_NEAR) {
                oneArgument(n, p);
                for (int r : FAR_AND_NEAR) {
                    twoArguments(n, p, r);
                    for (int s : FAR_AND_NEAR) {
                        boolean bad = !isAmong(p, n) || !isAmong(r, 3) || !isAmong(s, 6);
                        answers("see(" + p + ", " + r + ", " + s + ") of " + n, family(n).see(p, r, s), bad, BAD_ARG);
                    }
                }
            }
            fourArguments(n);
        }
    }

    private static void oneArgument(int n, int p) {
        boolean none = !isAmong(p, n);
        answers("frequency(" + p + ") of " + n, family(n).frequency(p), !isAmong(p, 17), BAD_ARG);
        answers("copies(" + p + ") of " + n, family(n).copies(p), none, 0);
        answers("possible(" + p + ") of " + n, family(n).possible(p), none, 0);
    }

    private static void twoArguments(int n, int p, int r) {
        String with = "(" + p + ", " + r + ") of " + n;
        boolean noPair = !isAmong(p, n) || !isAmong(r, n);
        boolean noSight = !isAmong(p, n) || !isAmong(r, 3);
        if (n < 7 || noPair || p == r) {
            answers("child" + with, family(n).child(p, r), noPair || p == r, BAD_ARG);
        } else {
            answers("child" + with, family(n).child(p, r), true, FULL);
        }
        answers("seen" + with, family(n).seen(p, r), noSight, BAD_ARG);
        answers("share" + with, family(n).share(p, r), noSight, 0);
        answers("before" + with, family(n).before(p, r) ? 1 : 0, noPair || p >= r, 0);
    }

    private static void fourArguments(int n) {
        for (int p : SOME) {
            for (int g : SOME) {
                for (int r : SOME) {
                    for (int h : SOME) {
                        boolean bad = !isAmong(p, n) || !isAmong(g, 3) || !isAmong(r, n) || !isAmong(h, 3);
                        answers("shareOfTwo(" + p + ", " + g + ", " + r + ", " + h + ") of " + n,
                                family(n).shareOfTwo(p, g, r, h), bad, 0);
                    }
                }
            }
        }
    }

    private static void refusedCallsLeaveNoTrace() {
        for (int n = 0; n <= 7; n++) {
            for (Call call : refusedCalls(n)) {
                refused(call.name + " of " + n, family(n), call.made, call.want);
            }
        }
    }

    private static List<Call> refusedCalls(int n) {
        List<Call> calls = new ArrayList<>();
        int last = n - 1;
        if (n == 0) {
            calls.add(new Call("remove()", x -> x.remove(), BAD_ARG));
        }
        if (n == 7) {
            calls.add(new Call("founder()", x -> x.founder(), FULL));
            calls.add(new Call("child(0, 6)", x -> x.child(0, 6), FULL));
        }
        calls.add(new Call("child(0, 0)", x -> x.child(0, 0), BAD_ARG));
        calls.add(new Call("child(-1, 0)", x -> x.child(-1, 0), BAD_ARG));
        calls.add(new Call("child(0, -1)", x -> x.child(0, -1), BAD_ARG));
        calls.add(new Call("child(n, 0)", x -> x.child(n, 0), BAD_ARG));
        calls.add(new Call("child(0, n)", x -> x.child(0, n), BAD_ARG));
        calls.add(new Call("frequency(-1)", x -> x.frequency(-1), BAD_ARG));
        calls.add(new Call("frequency(17)", x -> x.frequency(17), BAD_ARG));
        calls.add(new Call("see(-1, 0, 2)", x -> x.see(-1, 0, 2), BAD_ARG));
        calls.add(new Call("see(n, 0, 2)", x -> x.see(n, 0, 2), BAD_ARG));
        calls.add(new Call("see(last, -1, 2)", x -> x.see(last, -1, 2), BAD_ARG));
        calls.add(new Call("see(0, 3, 2)", x -> x.see(0, 3, 2), BAD_ARG));
        calls.add(new Call("see(0, 0, -1)", x -> x.see(0, 0, -1), BAD_ARG));
        calls.add(new Call("see(0, 0, 6)", x -> x.see(0, 0, 6), BAD_ARG));
        calls.add(new Call("seen(n, 0)", x -> x.seen(n, 0), BAD_ARG));
        calls.add(new Call("seen(-1, 0)", x -> x.seen(-1, 0), BAD_ARG));
        calls.add(new Call("seen(0, 3)", x -> x.seen(0, 3), BAD_ARG));
        calls.add(new Call("seen(last, -1)", x -> x.seen(last, -1), BAD_ARG));
        return calls;
    }

    private static void questionsLeaveNoTrace() {
        for (int n = 0; n <= 7; n++) {
            PedigreePeeling x = family(n);
            String earlier = state(x);
            for (int p = -1; p <= n; p++) {
                for (int g = -1; g <= 3; g++) {
                    x.share(p, g);
                    x.shareOfTwo(p, g, n - 1 - p, 2 - g);
                    x.seen(p, g);
                }
                x.copies(p);
                x.possible(p);
                x.before(p, n - 1);
            }
            Due.due("state after questions to " + n, state(x), earlier);
        }
    }
}
