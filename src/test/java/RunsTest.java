import java.util.ArrayList;
import java.util.List;
import java.util.Random;

/**
 * Long runs of adds, drops, refused calls and questions in mixed order, from a fixed seed. What an object
 * went through must not show: each question is also put to a new object with the members that are left.
 */
public final class RunsTest {
    private static final Checks CHECKS = new Checks();
    private static final int RUNS = 60;
    private static final int CALLS = 512;

    private final Random random;
    private final GeneIdentity x = new GeneIdentity();
    private final List<String> left = new ArrayList<>();
    private final String run;

    private RunsTest(int number) {
        random = new Random(number);
        run = "run " + number + " ";
    }

    public static void main(String[] args) {
        for (int number = 0; number < RUNS; number++) {
            RunsTest test = new RunsTest(number);
            for (int call = 1; call <= CALLS; call++) {
                test.step();
            }
        }
        CHECKS.finish();
    }

    private void step() {
        switch (random.nextInt(8)) {
            case 0:
                addFounder();
                break;
            case 1:
            case 2:
                addChild(argument(), argument());
                break;
            case 3:
                drop();
                break;
            default:
                ask(random.nextInt(11), argument(), argument(), argument(), argument());
        }
    }

    private void addFounder() {
        int n = left.size();
        CHECKS.due(run + left + " founder()", x.founder(), n == 7 ? GeneIdentity.FULL : n);
        if (n < 7) {
            left.add("F");
        }
    }

    private void addChild(int a, int b) {
        int n = left.size();
        boolean there = a >= 0 && a < n && b >= 0 && b < n;
        int due = !there ? GeneIdentity.BAD_ARG : n == 7 ? GeneIdentity.FULL : n;
        CHECKS.due(run + left + " child(" + a + ", " + b + ")", x.child(a, b), due);
        if (due == n) {
            left.add("" + a + b);
        }
    }

    private void drop() {
        int n = left.size();
        CHECKS.due(run + left + " drop()", x.drop(), n == 0 ? GeneIdentity.NONE : n - 1);
        if (n > 0) {
            left.remove(n - 1);
        }
    }

    private void ask(int question, int i, int j, int k, int l) {
        GeneIdentity fresh = Pedigrees.build(String.join(" ", left));
        String which = run + left + " question " + question + " of " + i + ", " + j + ", " + k + ", " + l;
        CHECKS.due(which, answer(x, question, i, j, k, l), answer(fresh, question, i, j, k, l));
    }

    private static int answer(GeneIdentity asked, int question, int i, int j, int k, int l) {
        switch (question) {
            case 0: return asked.members();
            case 1: return asked.ways();
            case 2: return asked.inbred(i);
            case 3: return asked.two(i, j);
            case 4: return asked.three(i, j, k);
            case 5: return asked.four(i, j, k, l);
            case 6: return asked.pairs(i, j, k, l);
            case 7: return asked.state(i, j, k + 1);
            case 8: return asked.related(i, j);
            case 9: return asked.from(i, j);
            default: return asked.line(i);
        }
    }

    /** Mostly a member, now and then the next number or one far off. */
    private int argument() {
        int n = left.size();
        switch (random.nextInt(20)) {
            case 0: return n;
            case 1: return -1;
            case 2: return random.nextInt();
            default: return random.nextInt(n + (n == 0 ? 1 : 0));
        }
    }
}
