import java.util.ArrayList;
import java.util.List;

/** What the tests share: comparing answers, and reading every answer of an object at once. */
final class Checks {
    private int wrong = 0;
    private int made = 0;

    void due(String call, long got, long want) {
        made++;
        if (got != want) {
            wrong++;
            System.out.println(call + " answered " + got + ", due is " + want);
        }
    }

    void holds(String what, boolean kept) {
        made++;
        if (!kept) {
            wrong++;
            System.out.println("does not hold: " + what);
        }
    }

    /** Ends the test with exit code 1 if an answer was wrong, or if nothing was compared at all. */
    void finish() {
        System.out.println(wrong + " of " + made + " answers are not as due");
        if (wrong != 0 || made == 0) {
            System.exit(1);
        }
    }

    /**
     * What tells an object's state, to see that a refused call changed nothing. These are 163 calls at
     * most: an object is read twice with room for other calls, since only 512 are promised.
     */
    static List<Integer> answers(GeneIdentity x) {
        List<Integer> all = new ArrayList<>();
        int n = x.members();
        all.add(n);
        all.add(x.ways());
        for (int i = 0; i < n; i++) {
            all.add(x.inbred(i));
            all.add(x.line(i));
            for (int j = 0; j < n; j++) {
                all.add(x.two(i, j));
                all.add(x.related(i, j));
                all.add(x.from(i, j));
            }
        }
        return all;
    }

    /** Two founders 0 and 1, their children 2 and 3, and 4, a child of these. */
    static GeneIdentity siblingsChild() {
        GeneIdentity x = new GeneIdentity();
        x.founder();
        x.founder();
        x.child(0, 1);
        x.child(0, 1);
        x.child(2, 3);
        return x;
    }
}
