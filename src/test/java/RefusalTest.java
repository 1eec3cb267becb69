import java.util.List;

/** Refused calls and questions change nothing, and no call throws, whatever its arguments. */
public final class RefusalTest {
    private static final Checks CHECKS = new Checks();
    private static final int[] ARGUMENTS =
            {Integer.MIN_VALUE, -8, -1, 0, 1, 4, 5, 6, 7, 8, 13, 14, 1 << 30, 1 << 31, Integer.MAX_VALUE};

    public static void main(String[] args) {
        for (int a : ARGUMENTS) {
            for (int b : ARGUMENTS) {
                // New objects each time: nothing is promised after an object's 512th call.
                questionsChangeNothing(new GeneIdentity(), a, b);
                questionsChangeNothing(Checks.siblingsChild(), a, b);
                questionsChangeNothing(full(), a, b);
            }
            refusedAddsChangeNothing(a);
        }
        refusedDropChangesNothing();
        CHECKS.finish();
    }

    private static GeneIdentity full() {
        GeneIdentity x = Checks.siblingsChild();
        x.child(4, 4);
        x.founder();
        return x;
    }

    private static void questionsChangeNothing(GeneIdentity x, int a, int b) {
        List<Integer> before = Checks.answers(x);
        x.inbred(a);
        x.line(a);
        x.two(a, b);
        x.related(a, b);
        x.from(a, b);
        for (int c : ARGUMENTS) {
            x.three(a, b, c);
            x.state(a, b, c);
            x.four(a, b, c, a);
            x.pairs(c, a, b, b);
        }
        CHECKS.holds("questions with " + a + " and " + b + " change nothing", before.equals(Checks.answers(x)));
    }

    private static void refusedAddsChangeNothing(int a) {
        GeneIdentity x = full();
        List<Integer> before = Checks.answers(x);
        CHECKS.due("full: founder()", x.founder(), GeneIdentity.FULL);
        for (int b : ARGUMENTS) {
            boolean present = a >= 0 && a < 7 && b >= 0 && b < 7;
            int due = present ? GeneIdentity.FULL : GeneIdentity.BAD_ARG;
            CHECKS.due("full: child(" + a + ", " + b + ")", x.child(a, b), due);
        }
        CHECKS.holds("refused adds change nothing", before.equals(Checks.answers(x)));
        CHECKS.due("drop() after refused adds", x.drop(), 6);
    }

    private static void refusedDropChangesNothing() {
        GeneIdentity x = new GeneIdentity();
        for (int n = 0; n < 20; n++) {
            CHECKS.due("drop() of none", x.drop(), GeneIdentity.NONE);
        }
        CHECKS.due("members() after refused drops", x.members(), 0);
        CHECKS.due("ways() after refused drops", x.ways(), 1);
        CHECKS.due("founder() after refused drops", x.founder(), 0);
        CHECKS.due("child(0, 0) after refused drops", x.child(0, 0), 1);
    }
}
