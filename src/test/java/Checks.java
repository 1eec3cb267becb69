import java.util.ArrayList;
import java.util.List;
import java.util.function.ToIntFunction;

/** What the tests share: comparing answers, and reading every answer of an object at once. */
final class Checks {
    private int wrong = 0;
    private int made = 0;

    void due(String call, long got, long want) {
        made++;
        if (got != want) {
            wrong++;
            System.out.println(call + " answered " + got + ", due is " + want);
        }
    }

    void holds(String what, boolean kept) {
        made++;
        if (!kept) {
            wrong++;
            System.out.println("does not hold: " + what);
        }
    }

    /** Runs the test of one sentence of the document, and names the sentence if it is broken. */
    void sentence(String words, Runnable test) {
        int madeBefore = made;
        int wrongBefore = wrong;
        try {
            test.run();
        } catch (RuntimeException thrown) {
            wrong++;
            System.out.println("a call threw " + thrown);
        }
        holds("the test of this sentence compares something", made > madeBefore);
        if (wrong > wrongBefore) {
            System.out.println("    broken: " + words);
        }
    }

    /**
     * A refused call answers its code and leaves the object as one that never got the call: it answers
     * the same, and gives the last number away and out again.
     */
    void refused(String pedigree, String call, ToIntFunction<GeneIdentity> ask, int code) {
        GeneIdentity x = Pedigrees.build(pedigree);
        String who = "[" + pedigree + "] " + call;
        due(who, ask.applyAsInt(x), code);
        due(who + " again", ask.applyAsInt(x), code);
        holds(who + " changes nothing", answers(x).equals(answers(Pedigrees.build(pedigree))));
        int n = Pedigrees.size(pedigree);
        due(who + ", then drop()", x.drop(), n == 0 ? GeneIdentity.NONE : n - 1);
        due(who + ", then founder()", x.founder(), n == 0 ? 0 : n - 1);
    }

    /** Ends the test with exit code 1 if an answer was wrong, or if nothing was compared at all. */
    void finish() {
        System.out.println(wrong + " of " + made + " answers are not as due");
        if (wrong != 0 || made == 0) {
            System.exit(1);
        }
    }

    /**
     * What tells an object's state, to see that a refused call changed nothing. These are 163 calls at
     * most: an object is read twice with room for other calls, since only 512 are promised.
     */
    static List<Integer> answers(GeneIdentity x) {
        List<Integer> all = new ArrayList<>();
        int n = x.members();
        all.add(n);
        all.add(x.ways());
        for (int i = 0; i < n; i++) {
            all.add(x.inbred(i));
            all.add(x.line(i));
            for (int j = 0; j < n; j++) {
                all.add(x.two(i, j));
                all.add(x.related(i, j));
                all.add(x.from(i, j));
            }
        }
        return all;
    }

    /** Two founders 0 and 1, their children 2 and 3, and 4, a child of these. */
    static GeneIdentity siblingsChild() {
        return Pedigrees.build(Pedigrees.SIBLINGS_CHILD);
    }
}
