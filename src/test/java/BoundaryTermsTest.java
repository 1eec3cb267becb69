/** What the document's opening and its "Terms" say of boundaries, sentence by sentence. */
public final class BoundaryTermsTest {
    private static final Checks CHECKS = new Checks();

    public static void main(String[] args) {
        CHECKS.sentence("An object is used for at most 512 calls after it has been made",
                BoundaryTermsTest::the512thCall);
        CHECKS.sentence("There are up to 7 MEMBERS, numbered from 0 on in the order in which they are added.",
                BoundaryTermsTest::numbers);
        CHECKS.sentence("members with smaller numbers, perhaps the same one twice",
                BoundaryTermsTest::parents);
        CHECKS.sentence("There are at most 6 children.", BoundaryTermsTest::sixChildren);
        CHECKS.sentence("with m children there are 4 to the power m ways", BoundaryTermsTest::powers);
        CHECKS.sentence("Two genes are ALIKE in a way if they are the same",
                BoundaryTermsTest::alikeWithoutSteps);
        CHECKS.sentence("or copies, over any number of steps, of the same gene of a founder",
                BoundaryTermsTest::alikeOverSteps);
        states();
        CHECKS.sentence("No call ever throws.", BoundaryTermsTest::noCallThrows);
        CHECKS.sentence("A refused call answers the code named and changes nothing.",
                BoundaryTermsTest::refusedCalls);
        CHECKS.sentence("The constants", BoundaryTermsTest::constants);
        CHECKS.finish();
    }

    private static void the512thCall() {
        afterRefusedCalls();
        afterQuestions();
    }

    /** 7 adds, 502 refused calls, 3 more. */
    private static void afterRefusedCalls() {
        GeneIdentity x = Pedigrees.build(Pedigrees.MIXED);
        for (int n = 0; n < 251; n++) {
            CHECKS.due("founder() no. " + n, x.founder(), GeneIdentity.FULL);
            CHECKS.due("child(0, 7) no. " + n, x.child(0, 7), GeneIdentity.BAD_ARG);
        }
        CHECKS.due("call 510: members()", x.members(), 7);
        CHECKS.due("call 511: drop()", x.drop(), 6);
        CHECKS.due("call 512: child(5, 4)", x.child(5, 4), 6);
    }

    /** 7 adds, 505 questions. */
    private static void afterQuestions() {
        GeneIdentity x = Pedigrees.build(Pedigrees.SELFED);
        for (int n = 0; n < 101; n++) {
            CHECKS.due("inbred(6) no. " + n, x.inbred(6), 4032);
            CHECKS.due("four(6, 6, 6, 6) no. " + n, x.four(6, 6, 6, 6), 64640);
            CHECKS.due("state(0, 6, 7) no. " + n, x.state(0, 6, 7), 64);
            CHECKS.due("line(6) no. " + n, x.line(6), 127);
            CHECKS.due("from(6, 0) no. " + n, x.from(6, 0), 8192);
        }
    }

    private static void numbers() {
        GeneIdentity x = new GeneIdentity();
        CHECKS.due("the first", x.founder(), 0);
        CHECKS.due("the second", x.child(0, 0), 1);
        CHECKS.due("the third", x.founder(), 2);
        CHECKS.due("the fourth", x.child(2, 1), 3);
        CHECKS.due("the fifth", x.child(3, 3), 4);
        CHECKS.due("the sixth", x.founder(), 5);
        CHECKS.due("the seventh", x.child(5, 0), 6);
        CHECKS.due("no eighth founder", x.founder(), GeneIdentity.FULL);
        CHECKS.due("no eighth child", x.child(5, 0), GeneIdentity.FULL);
        CHECKS.due("members()", x.members(), 7);
        CHECKS.due("line(6) knows 5, 0 and itself", x.line(6), 64 + 32 + 1);
    }

    private static void parents() {
        for (int n = 1; n < 7; n++) {
            String founders = Pedigrees.SEVEN_FOUNDERS.substring(0, 2 * n - 1);
            int last = n - 1;
            String with = n + " founders: child of ";
            GeneIdentity x = Pedigrees.build(founders);
            CHECKS.due(with + "itself and 0", x.child(n, 0), GeneIdentity.BAD_ARG);
            CHECKS.due(with + "0 and itself", x.child(0, n), GeneIdentity.BAD_ARG);
            CHECKS.due(with + "itself twice", x.child(n, n), GeneIdentity.BAD_ARG);
            CHECKS.due(with + "the last one twice", x.child(last, last), n);
            CHECKS.due(with + "the last one twice: line", x.line(n), (1 << n) + (1 << last));
            CHECKS.due(with + "the last one twice: inbred", x.inbred(n), 2);
            GeneIdentity y = Pedigrees.build(founders);
            CHECKS.due(with + "the first one twice", y.child(0, 0), n);
            CHECKS.due(with + "the first one twice: line", y.line(n), (1 << n) + 1);
            CHECKS.due(with + "the first one twice: inbred", y.inbred(n), 2);
        }
    }

    private static void sixChildren() {
        GeneIdentity x = Pedigrees.build("F 00 00 00 00 00");
        CHECKS.due("the sixth child", x.child(0, 0), 6);
        CHECKS.due("from(0, 6): the sixth child is none of the founders", x.from(0, 6), GeneIdentity.NONE);
        CHECKS.due("the seventh child", x.child(0, 0), GeneIdentity.FULL);
        CHECKS.due("a child of the sixth", x.child(6, 6), GeneIdentity.FULL);
        CHECKS.due("ways()", x.ways(), 4096);
        // A dropped child does not count any more.
        for (int n = 0; n < 10; n++) {
            CHECKS.due("drop()", x.drop(), 6);
            CHECKS.due("the sixth child again", x.child(5, 5), 6);
            CHECKS.due("the seventh child again", x.child(0, 0), GeneIdentity.FULL);
        }
    }

    private static void powers() {
        int[] due = {1, 4, 16, 64, 256, 1024, 4096};
        for (int m = 0; m <= 6; m++) {
            StringBuilder oldFounders = new StringBuilder("F");
            StringBuilder youngFounders = new StringBuilder("F");
            for (int i = 1; i < 7; i++) {
                oldFounders.append(i < 7 - m ? " F" : " 00");
                youngFounders.append(i <= m ? " 00" : " F");
            }
            CHECKS.due("[" + oldFounders + "] ways()", Pedigrees.build(oldFounders.toString()).ways(), due[m]);
            CHECKS.due("[" + youngFounders + "] ways()", Pedigrees.build(youngFounders.toString()).ways(), due[m]);
        }
    }

    private static void alikeWithoutSteps() {
        GeneIdentity x = Pedigrees.build(Pedigrees.SEVEN_FOUNDERS);
        for (int i = 0; i < 7; i++) {
            CHECKS.due("each gene of founder " + i + " is alike with itself alone", x.two(i, i), 2);
            CHECKS.due("the own genes of founder " + i + " are two", x.inbred(i), 0);
            for (int j = 0; j < 7; j++) {
                CHECKS.due("founders " + i + " and " + j + " share", x.two(i, j), i == j ? 2 : 0);
            }
        }
    }

    private static void alikeOverSteps() {
        GeneIdentity x = Pedigrees.build(Pedigrees.CROSSED_BACK);
        // Each step from member 2 on halves the chance that founder 0's gene is handed on.
        int due = 1024;
        for (int i = 2; i < 7; i++) {
            CHECKS.due("two(0, " + i + ") over " + (i - 1) + " steps", x.two(0, i), due);
            CHECKS.due("from(" + i + ", 0) over " + (i - 1) + " steps", x.from(i, 0), due);
            CHECKS.due("from(" + i + ", 1)", x.from(i, 1), 2048 - due);
            due /= 2;
        }
        GeneIdentity y = Pedigrees.build(Pedigrees.SELFED);
        for (int i = 1; i < 7; i++) {
            CHECKS.due("selfed: two(0, " + i + ") over " + i + " steps", y.two(0, i), 8192);
        }
    }

    private static void states() {
        state("1 all four genes are alike;", "F 00 00", 1, 2, 2, 2, 4, 0, 4, 0, 4, 0, 0);
        state("2 the own genes of i are alike, those of j are alike, but not with those of i;",
                "F F 00 11", 2, 3, 0, 4, 0, 4, 0, 4, 0, 0, 4);
        state("3 the own genes of i are alike, those of j are not, and just one of j's is alike with those of i;",
                "F F 00 01", 2, 3, 0, 0, 4, 4, 0, 0, 0, 8, 0);
        state("3, by the second gene of j", "F F 00 10", 2, 3, 0, 0, 4, 4, 0, 0, 0, 8, 0);
        state("4 the own genes of i are alike, those of j are not, and none of j's is alike with those of i;",
                "F F 00", 2, 1, 0, 0, 0, 2, 0, 0, 0, 0, 2);
        state("5 the own genes of j are alike, those of i are not, and just one of i's is alike with those of j;",
                "F F 00 01", 3, 2, 0, 0, 0, 0, 4, 4, 0, 8, 0);
        state("5, by the second gene of i", "F F 00 10", 3, 2, 0, 0, 0, 0, 4, 4, 0, 8, 0);
        state("6 the own genes of j are alike, those of i are not, and none of i's is alike with those of j;",
                "F F 00", 1, 2, 0, 0, 0, 0, 0, 2, 0, 0, 2);
        state("7 neither member's own genes are alike, and each gene of i is alike with one of j;",
                "F F 01 01", 2, 3, 0, 0, 0, 0, 0, 0, 4, 8, 4);
        state("7, crosswise", "F F 01 10", 2, 3, 0, 0, 0, 0, 0, 0, 4, 8, 4);
        state("8 neither member's own genes are alike, and just one gene of i is alike with one of j;",
                "F F F 01 02", 3, 4, 0, 0, 0, 0, 0, 0, 0, 8, 8);
        state("8, by the first gene and the second", "F F F 01 20", 3, 4, 0, 0, 0, 0, 0, 0, 0, 8, 8);
        state("8, by the second gene and the first", "F F F 10 02", 3, 4, 0, 0, 0, 0, 0, 0, 0, 8, 8);
        state("8, by the second gene and the second", "F F F 10 20", 3, 4, 0, 0, 0, 0, 0, 0, 0, 8, 8);
        state("8, in every way", "F F 01", 0, 2, 0, 0, 0, 0, 0, 0, 0, 4, 0);
        state("9 no two of the four genes are alike.", "F F", 0, 1, 0, 0, 0, 0, 0, 0, 0, 0, 1);
    }

    private static void state(String words, String pedigree, int i, int j, int... due) {
        CHECKS.sentence(words, () -> {
            GeneIdentity x = Pedigrees.build(pedigree);
            for (int s = 1; s <= 9; s++) {
                CHECKS.due("[" + pedigree + "] state(" + i + ", " + j + ", " + s + ")", x.state(i, j, s), due[s - 1]);
            }
        });
    }

    private static void noCallThrows() {
        int[] wild = {Integer.MIN_VALUE, -1, 0, 6, 7, 1 << 30, Integer.MAX_VALUE};
        for (String pedigree : Pedigrees.ALL) {
            for (int a : wild) {
                for (int b : wild) {
                    askAll(pedigree, a, b, wild);
                }
            }
        }
        CHECKS.holds("no call threw", true);
    }

    private static void askAll(String pedigree, int a, int b, int[] wild) {
        GeneIdentity x = Pedigrees.build(pedigree);
        for (int c : wild) {
            for (int d : wild) {
                x.four(a, b, c, d);
                x.pairs(a, b, c, d);
            }
            x.three(a, b, c);
            x.state(a, b, c);
        }
        x.inbred(a);
        x.two(a, b);
        x.related(a, b);
        x.from(a, b);
        x.line(a);
        x.ways();
        x.members();
        x.child(a, b);
        x.founder();
        for (int n = 0; n < 9; n++) {
            x.drop();
        }
        x.child(a, b);
    }

    /** One refusal of each kind, on an object where it applies; the promises' own tests have the rest. */
    private static void refusedCalls() {
        String five = Pedigrees.SIBLINGS_CHILD;
        CHECKS.refused(Pedigrees.MIXED, "founder()", x -> x.founder(), GeneIdentity.FULL);
        CHECKS.refused(Pedigrees.MIXED, "child(0, 1)", x -> x.child(0, 1), GeneIdentity.FULL);
        CHECKS.refused(five, "child(0, 5)", x -> x.child(0, 5), GeneIdentity.BAD_ARG);
        CHECKS.refused(Pedigrees.EMPTY, "drop()", x -> x.drop(), GeneIdentity.NONE);
        CHECKS.refused(five, "inbred(5)", x -> x.inbred(5), GeneIdentity.BAD_ARG);
        CHECKS.refused(five, "two(4, 5)", x -> x.two(4, 5), GeneIdentity.BAD_ARG);
        CHECKS.refused(five, "three(4, 4, 5)", x -> x.three(4, 4, 5), GeneIdentity.BAD_ARG);
        CHECKS.refused(five, "four(4, 4, 4, 5)", x -> x.four(4, 4, 4, 5), GeneIdentity.BAD_ARG);
        CHECKS.refused(five, "pairs(4, 4, 4, 5)", x -> x.pairs(4, 4, 4, 5), GeneIdentity.BAD_ARG);
        CHECKS.refused(five, "state(4, 5, 1)", x -> x.state(4, 5, 1), GeneIdentity.BAD_ARG);
        CHECKS.refused(five, "state(4, 3, 10)", x -> x.state(4, 3, 10), GeneIdentity.BAD_ARG);
        CHECKS.refused(five, "state(4, 4, 1)", x -> x.state(4, 4, 1), GeneIdentity.NONE);
        CHECKS.refused(five, "related(4, 5)", x -> x.related(4, 5), GeneIdentity.BAD_ARG);
        CHECKS.refused(five, "from(4, 5)", x -> x.from(4, 5), GeneIdentity.BAD_ARG);
        CHECKS.refused(five, "from(4, 2)", x -> x.from(4, 2), GeneIdentity.NONE);
        CHECKS.refused(five, "line(5)", x -> x.line(5), GeneIdentity.BAD_ARG);
    }

    private static void constants() {
        CHECKS.due("BAD_ARG", GeneIdentity.BAD_ARG, -1);
        CHECKS.due("FULL", GeneIdentity.FULL, -2);
        CHECKS.due("NONE", GeneIdentity.NONE, -4);
    }
}
