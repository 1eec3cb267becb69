/** Promises 7 to 11: inbred, two, three, four, pairs, on pedigrees small enough to count by hand. */
public final class CountsTest {
    private static final Checks CHECKS = new Checks();

    public static void main(String[] args) {
        founders();
        parentAndChild();
        selfed();
        siblings();
        absentMembers();
        CHECKS.finish();
    }

    /** One way; a founder's genes are alike only with themselves. */
    private static void founders() {
        GeneIdentity x = new GeneIdentity();
        x.founder();
        x.founder();
        CHECKS.due("inbred(0)", x.inbred(0), 0);
        CHECKS.due("two(0, 0)", x.two(0, 0), 2);
        CHECKS.due("two(0, 1)", x.two(0, 1), 0);
        CHECKS.due("three(1, 1, 1)", x.three(1, 1, 1), 2);
        CHECKS.due("three(1, 1, 0)", x.three(1, 1, 0), 0);
        CHECKS.due("four(1, 1, 1, 1)", x.four(1, 1, 1, 1), 2);
        CHECKS.due("four(1, 1, 1, 0)", x.four(1, 1, 1, 0), 0);
        CHECKS.due("pairs(0, 0, 1, 1)", x.pairs(0, 0, 1, 1), 4);
        CHECKS.due("pairs(0, 0, 0, 0)", x.pairs(0, 0, 0, 0), 4);
        CHECKS.due("pairs(0, 1, 0, 1)", x.pairs(0, 1, 0, 1), 0);
        CHECKS.due("pairs(0, 0, 0, 1)", x.pairs(0, 0, 0, 1), 0);
        CHECKS.due("pairs(0, 1, 0, 0)", x.pairs(0, 1, 0, 0), 0);
    }

    /** Four ways; in each, child 2 has one gene of founder 0 and one of founder 1. */
    private static void parentAndChild() {
        GeneIdentity x = new GeneIdentity();
        x.founder();
        x.founder();
        x.child(0, 1);
        CHECKS.due("inbred(2)", x.inbred(2), 0);
        CHECKS.due("inbred(0)", x.inbred(0), 0);
        CHECKS.due("two(0, 2)", x.two(0, 2), 4);
        CHECKS.due("two(2, 0)", x.two(2, 0), 4);
        CHECKS.due("two(2, 1)", x.two(2, 1), 4);
        CHECKS.due("two(2, 2)", x.two(2, 2), 8);
        CHECKS.due("three(0, 2, 2)", x.three(0, 2, 2), 4);
        CHECKS.due("three(0, 1, 2)", x.three(0, 1, 2), 0);
        CHECKS.due("four(0, 2, 0, 2)", x.four(0, 2, 0, 2), 4);
        CHECKS.due("pairs(0, 2, 2, 1)", x.pairs(0, 2, 2, 1), 4);
        CHECKS.due("pairs(0, 0, 2, 2)", x.pairs(0, 0, 2, 2), 16);
        CHECKS.due("pairs(0, 1, 2, 2)", x.pairs(0, 1, 2, 2), 0);
    }

    /** Four ways; child 1 of founder 0 with itself has its own genes alike in two of them. */
    private static void selfed() {
        GeneIdentity x = new GeneIdentity();
        x.founder();
        x.child(0, 0);
        CHECKS.due("inbred(1)", x.inbred(1), 2);
        CHECKS.due("two(1, 1)", x.two(1, 1), 2 * 4 + 2 * 2);
        CHECKS.due("two(0, 1)", x.two(0, 1), 2 * 2 + 2 * 2);
        CHECKS.due("three(1, 1, 1)", x.three(1, 1, 1), 2 * 8 + 2 * 2);
        CHECKS.due("three(0, 1, 1)", x.three(0, 1, 1), 2 * 4 + 2 * 2);
        CHECKS.due("four(1, 1, 1, 1)", x.four(1, 1, 1, 1), 2 * 16 + 2 * 2);
        CHECKS.due("four(0, 0, 1, 1)", x.four(0, 0, 1, 1), 2 * 4 + 2 * 2);
        CHECKS.due("pairs(1, 1, 1, 1)", x.pairs(1, 1, 1, 1), 2 * 16 + 2 * 4);
        CHECKS.due("pairs(0, 1, 0, 1)", x.pairs(0, 1, 0, 1), 2 * 4 + 2 * 4);
        CHECKS.due("pairs(0, 0, 1, 1)", x.pairs(0, 0, 1, 1), 2 * 8 + 2 * 4);
    }

    /** Sixteen ways; siblings 2 and 3 share 0, 1 and 2 genes in 4, 8 and 4 of them. */
    private static void siblings() {
        GeneIdentity x = new GeneIdentity();
        x.founder();
        x.founder();
        x.child(0, 1);
        x.child(0, 1);
        CHECKS.due("two(2, 3)", x.two(2, 3), 8 + 4 * 2);
        CHECKS.due("three(2, 3, 3)", x.three(2, 3, 3), 8 + 4 * 2);
        CHECKS.due("three(0, 2, 3)", x.three(0, 2, 3), 8);
        CHECKS.due("four(2, 2, 3, 3)", x.four(2, 2, 3, 3), 8 + 4 * 2);
        CHECKS.due("pairs(2, 3, 2, 3)", x.pairs(2, 3, 2, 3), 8 + 4 * 4);
        CHECKS.due("pairs(2, 2, 3, 3)", x.pairs(2, 2, 3, 3), 16 * 4);
        CHECKS.due("pairs(2, 3, 3, 3)", x.pairs(2, 3, 3, 3), 2 * (8 + 4 * 2));
        x.child(2, 3);
        CHECKS.due("inbred(4)", x.inbred(4), 16);
    }

    private static void absentMembers() {
        GeneIdentity x = Checks.siblingsChild();
        int[] bad = {-1, 5, 6, 7, 1 << 30, Integer.MAX_VALUE, Integer.MIN_VALUE};
        for (int b : bad) {
            String with = " with " + b;
            CHECKS.due("inbred" + with, x.inbred(b), GeneIdentity.BAD_ARG);
            for (int place = 0; place < 4; place++) {
                int[] m = {0, 2, 3, 4};
                m[place] = b;
                String at = with + " at " + place;
                if (place < 2) {
                    CHECKS.due("two" + at, x.two(m[0], m[1]), GeneIdentity.BAD_ARG);
                }
                if (place < 3) {
                    CHECKS.due("three" + at, x.three(m[0], m[1], m[2]), GeneIdentity.BAD_ARG);
                }
                CHECKS.due("four" + at, x.four(m[0], m[1], m[2], m[3]), GeneIdentity.BAD_ARG);
                CHECKS.due("pairs" + at, x.pairs(m[0], m[1], m[2], m[3]), GeneIdentity.BAD_ARG);
            }
        }
    }
}
