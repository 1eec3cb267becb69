/** Promises 12 to 16: state, related, from, line, and the order in which their arguments are tested. */
public final class RelationsTest {
    private static final Checks CHECKS = new Checks();

    public static void main(String[] args) {
        stateOfUnrelated();
        stateOfParentAndChild();
        stateOfSiblings();
        stateOfSelfed();
        stateOfTwoInbred();
        stateRefusals();
        related();
        from();
        fromRefusals();
        line();
        CHECKS.finish();
    }

    private static void states(String who, GeneIdentity x, int i, int j, int... due) {
        for (int s = 1; s <= 9; s++) {
            CHECKS.due(who + ": state(" + i + ", " + j + ", " + s + ")", x.state(i, j, s), due[s - 1]);
        }
    }

    private static void stateOfUnrelated() {
        GeneIdentity x = new GeneIdentity();
        x.founder();
        x.founder();
        states("founders", x, 0, 1, 0, 0, 0, 0, 0, 0, 0, 0, 1);
        x.child(0, 0);
        states("a founder and another's selfed child", x, 1, 2, 0, 0, 0, 0, 0, 2, 0, 0, 2);
        states("the same, turned round", x, 2, 1, 0, 0, 0, 2, 0, 0, 0, 0, 2);
    }

    private static void stateOfParentAndChild() {
        GeneIdentity x = new GeneIdentity();
        x.founder();
        x.founder();
        x.child(0, 1);
        states("parent and child", x, 0, 2, 0, 0, 0, 0, 0, 0, 0, 4, 0);
        states("child and parent", x, 2, 1, 0, 0, 0, 0, 0, 0, 0, 4, 0);
    }

    private static void stateOfSiblings() {
        GeneIdentity x = Checks.siblingsChild();
        x.drop();
        states("siblings", x, 2, 3, 0, 0, 0, 0, 0, 0, 4, 8, 4);
        states("siblings turned round", x, 3, 2, 0, 0, 0, 0, 0, 0, 4, 8, 4);
        // Child 4 takes the same gene twice in a quarter of the ways: that gene is then in both parents.
        x.child(2, 3);
        states("child of siblings and its parent", x, 4, 2, 0, 0, 16, 0, 0, 0, 16, 32, 0);
        states("parent and child of siblings", x, 2, 4, 0, 0, 0, 0, 16, 0, 16, 32, 0);
    }

    private static void stateOfSelfed() {
        GeneIdentity x = new GeneIdentity();
        x.founder();
        x.child(0, 0);
        states("founder and its selfed child", x, 0, 1, 0, 0, 0, 0, 2, 0, 2, 0, 0);
        states("selfed child and its founder", x, 1, 0, 0, 0, 2, 0, 0, 0, 2, 0, 0);
        x.child(0, 0);
        states("two selfed children of one founder", x, 1, 2, 2, 2, 4, 0, 4, 0, 4, 0, 0);
    }

    private static void stateOfTwoInbred() {
        GeneIdentity x = new GeneIdentity();
        x.founder();
        x.founder();
        x.child(0, 0);
        x.child(1, 1);
        states("selfed children of two founders", x, 2, 3, 0, 4, 0, 4, 0, 4, 0, 0, 4);
    }

    private static void stateRefusals() {
        GeneIdentity x = Checks.siblingsChild();
        int[] badStates = {0, -1, 10, 11, Integer.MAX_VALUE, Integer.MIN_VALUE};
        for (int s : badStates) {
            CHECKS.due("state(2, 3, " + s + ")", x.state(2, 3, s), GeneIdentity.BAD_ARG);
            CHECKS.due("state(2, 2, " + s + ") before NONE", x.state(2, 2, s), GeneIdentity.BAD_ARG);
            CHECKS.due("state(5, 5, " + s + ")", x.state(5, 5, s), GeneIdentity.BAD_ARG);
        }
        int[] bad = {-1, 5, 7, Integer.MAX_VALUE, Integer.MIN_VALUE};
        for (int b : bad) {
            CHECKS.due("state(" + b + ", 0, 1)", x.state(b, 0, 1), GeneIdentity.BAD_ARG);
            CHECKS.due("state(0, " + b + ", 9)", x.state(0, b, 9), GeneIdentity.BAD_ARG);
            CHECKS.due("state(" + b + ", " + b + ", 1) before NONE", x.state(b, b, 1), GeneIdentity.BAD_ARG);
        }
        for (int i = 0; i < 5; i++) {
            for (int s = 1; s <= 9; s++) {
                CHECKS.due("state(" + i + ", " + i + ", " + s + ")", x.state(i, i, s), GeneIdentity.NONE);
            }
        }
    }

    private static void related() {
        GeneIdentity x = Checks.siblingsChild();
        CHECKS.due("related(0, 1)", x.related(0, 1), 0);
        CHECKS.due("related(0, 2)", x.related(0, 2), 64);
        CHECKS.due("related(2, 3)", x.related(2, 3), 48);
        CHECKS.due("related(3, 2)", x.related(3, 2), 48);
        // Child 4 misses founder 0 if both its parents hand on their genes of founder 1.
        CHECKS.due("related(0, 4)", x.related(0, 4), 48);
        CHECKS.due("related(4, 0)", x.related(4, 0), 48);
        for (int i = 0; i < 5; i++) {
            CHECKS.due("related(i, i) of " + i, x.related(i, i), 64);
        }
        int[] bad = {-1, 5, 7, Integer.MAX_VALUE, Integer.MIN_VALUE};
        for (int b : bad) {
            CHECKS.due("related(" + b + ", 0)", x.related(b, 0), GeneIdentity.BAD_ARG);
            CHECKS.due("related(0, " + b + ")", x.related(0, b), GeneIdentity.BAD_ARG);
            CHECKS.due("related(" + b + ", " + b + ")", x.related(b, b), GeneIdentity.BAD_ARG);
        }
    }

    private static void from() {
        GeneIdentity x = Checks.siblingsChild();
        x.founder();
        x.child(4, 5);
        CHECKS.due("from(0, 0)", x.from(0, 0), 512);
        CHECKS.due("from(0, 1)", x.from(0, 1), 0);
        CHECKS.due("from(2, 0)", x.from(2, 0), 256);
        CHECKS.due("from(4, 1)", x.from(4, 1), 256);
        CHECKS.due("from(4, 5)", x.from(4, 5), 0);
        CHECKS.due("from(6, 5)", x.from(6, 5), 256);
        CHECKS.due("from(6, 0)", x.from(6, 0), 128);
        CHECKS.due("from(6, 1)", x.from(6, 1), 128);
        CHECKS.due("from(5, 5)", x.from(5, 5), 512);
    }

    private static void fromRefusals() {
        GeneIdentity x = Checks.siblingsChild();
        for (int f = 2; f < 5; f++) {
            for (int i = 0; i < 5; i++) {
                CHECKS.due("from(" + i + ", " + f + ")", x.from(i, f), GeneIdentity.NONE);
            }
        }
        int[] bad = {-1, 5, 7, Integer.MAX_VALUE, Integer.MIN_VALUE};
        for (int b : bad) {
            CHECKS.due("from(" + b + ", 0)", x.from(b, 0), GeneIdentity.BAD_ARG);
            CHECKS.due("from(" + b + ", 2) before NONE", x.from(b, 2), GeneIdentity.BAD_ARG);
            CHECKS.due("from(0, " + b + ")", x.from(0, b), GeneIdentity.BAD_ARG);
            CHECKS.due("from(" + b + ", " + b + ")", x.from(b, b), GeneIdentity.BAD_ARG);
        }
    }

    private static void line() {
        GeneIdentity x = Checks.siblingsChild();
        x.founder();
        x.child(5, 2);
        int[] due = {1, 2, 1 + 2 + 4, 1 + 2 + 8, 1 + 2 + 4 + 8 + 16, 32, 1 + 2 + 4 + 32 + 64};
        for (int i = 0; i < 7; i++) {
            CHECKS.due("line(" + i + ")", x.line(i), due[i]);
        }
        int[] bad = {-1, 7, 8, Integer.MAX_VALUE, Integer.MIN_VALUE};
        for (int b : bad) {
            CHECKS.due("line(" + b + ")", x.line(b), GeneIdentity.BAD_ARG);
        }
    }
}
