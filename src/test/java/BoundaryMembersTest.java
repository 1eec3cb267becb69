/** What promises 1 to 6 say of boundaries, sentence by sentence. */
public final class BoundaryMembersTest {
    private static final Checks CHECKS = new Checks();

    public static void main(String[] args) {
        CHECKS.sentence("1: No members.", BoundaryMembersTest::noMembers);
        CHECKS.sentence("2: FULL if there are 7 members.", BoundaryMembersTest::founderWhenFull);
        CHECKS.sentence("2: Otherwise its number.", BoundaryMembersTest::founderNumbers);
        CHECKS.sentence("3: no member a or no member b answers BAD_ARG", BoundaryMembersTest::childOfAbsent);
        CHECKS.sentence("3: there are 7 members or 6 children answers FULL", BoundaryMembersTest::childWhenFull);
        CHECKS.sentence("3: Tested in this order", BoundaryMembersTest::childOrder);
        CHECKS.sentence("3: Otherwise its number.", BoundaryMembersTest::childNumbers);
        CHECKS.sentence("4: Takes the last member away", BoundaryMembersTest::dropTakesTheLast);
        CHECKS.sentence("4: NONE if there is none.", BoundaryMembersTest::dropWhenEmpty);
        CHECKS.sentence("4: Otherwise how many are left.", BoundaryMembersTest::dropCounts);
        CHECKS.sentence("5: The number of members.", BoundaryMembersTest::members);
        CHECKS.sentence("6: The number of ways.", BoundaryMembersTest::ways);
        CHECKS.finish();
    }

    private static void noMembers() {
        GeneIdentity x = new GeneIdentity();
        CHECKS.due("members()", x.members(), 0);
        CHECKS.due("ways()", x.ways(), 1);
        CHECKS.due("inbred(0)", x.inbred(0), GeneIdentity.BAD_ARG);
        CHECKS.due("two(0, 0)", x.two(0, 0), GeneIdentity.BAD_ARG);
        CHECKS.due("three(0, 0, 0)", x.three(0, 0, 0), GeneIdentity.BAD_ARG);
        CHECKS.due("four(0, 0, 0, 0)", x.four(0, 0, 0, 0), GeneIdentity.BAD_ARG);
        CHECKS.due("pairs(0, 0, 0, 0)", x.pairs(0, 0, 0, 0), GeneIdentity.BAD_ARG);
        CHECKS.due("state(0, 0, 1)", x.state(0, 0, 1), GeneIdentity.BAD_ARG);
        CHECKS.due("related(0, 0)", x.related(0, 0), GeneIdentity.BAD_ARG);
        CHECKS.due("from(0, 0)", x.from(0, 0), GeneIdentity.BAD_ARG);
        CHECKS.due("line(0)", x.line(0), GeneIdentity.BAD_ARG);
        CHECKS.due("child(0, 0)", x.child(0, 0), GeneIdentity.BAD_ARG);
        CHECKS.due("drop()", x.drop(), GeneIdentity.NONE);
        CHECKS.due("founder()", x.founder(), 0);
        CHECKS.due("members() of a second new object", new GeneIdentity().members(), 0);
    }

    private static void founderWhenFull() {
        for (String pedigree : Pedigrees.FULL_ONES) {
            CHECKS.refused(pedigree, "founder()", x -> x.founder(), GeneIdentity.FULL);
        }
        GeneIdentity x = Pedigrees.build(Pedigrees.SEVEN_FOUNDERS);
        x.founder();
        x.drop();
        CHECKS.due("founder() with 6 members, after FULL", x.founder(), 6);
        CHECKS.due("founder() with 7 members again", x.founder(), GeneIdentity.FULL);
    }

    private static void founderNumbers() {
        for (int n = 0; n < 7; n++) {
            GeneIdentity x = new GeneIdentity();
            for (int i = 0; i < n; i++) {
                x.founder();
            }
            CHECKS.due("founder() after " + n + " founders", x.founder(), n);
            CHECKS.due("members() then", x.members(), n + 1);
            CHECKS.due("from(n, n) of the new founder", x.from(n, n), 2);
        }
        CHECKS.due("founder() with 6 members, 5 of them children",
                Pedigrees.build("F 00 11 22 33 44").founder(), 6);
        GeneIdentity x = Pedigrees.build(Pedigrees.CHILD_DROPPED);
        CHECKS.due("founder() in a dropped child's place", x.founder(), 4);
        CHECKS.due("from(4, 4) there", x.from(4, 4), 32);
        CHECKS.due("line(4) there", x.line(4), 16);
        CHECKS.due("ways() there", x.ways(), 16);
    }

    private static void childOfAbsent() {
        for (String pedigree : Pedigrees.ALL) {
            int n = Pedigrees.size(pedigree);
            int last = n == 0 ? 0 : n - 1;
            for (int bad : Pedigrees.absent(n)) {
                GeneIdentity x = Pedigrees.build(pedigree);
                String who = "[" + pedigree + "] child with " + bad;
                CHECKS.due(who + " as a, b = 0", x.child(bad, 0), GeneIdentity.BAD_ARG);
                CHECKS.due(who + " as a, b = last", x.child(bad, last), GeneIdentity.BAD_ARG);
                CHECKS.due(who + " as b, a = 0", x.child(0, bad), GeneIdentity.BAD_ARG);
                CHECKS.due(who + " as b, a = last", x.child(last, bad), GeneIdentity.BAD_ARG);
                CHECKS.due(who + " as both", x.child(bad, bad), GeneIdentity.BAD_ARG);
                CHECKS.due(who + ", then members()", x.members(), n);
            }
            CHECKS.refused(pedigree, "child(-1, 0)", x -> x.child(-1, 0), GeneIdentity.BAD_ARG);
            CHECKS.refused(pedigree, "child(0, n)", x -> x.child(0, n), GeneIdentity.BAD_ARG);
        }
    }

    private static void childWhenFull() {
        for (String pedigree : Pedigrees.FULL_ONES) {
            CHECKS.refused(pedigree, "child(0, 0)", x -> x.child(0, 0), GeneIdentity.FULL);
            CHECKS.refused(pedigree, "child(0, 6)", x -> x.child(0, 6), GeneIdentity.FULL);
            CHECKS.refused(pedigree, "child(6, 0)", x -> x.child(6, 0), GeneIdentity.FULL);
            CHECKS.refused(pedigree, "child(6, 6)", x -> x.child(6, 6), GeneIdentity.FULL);
            GeneIdentity x = Pedigrees.build(pedigree);
            x.child(6, 6);
            x.drop();
            CHECKS.due("[" + pedigree + "] child(5, 5) after FULL and drop()", x.child(5, 5), 6);
            CHECKS.due("[" + pedigree + "] child(5, 5) when full again", x.child(5, 5), GeneIdentity.FULL);
        }
    }

    private static void childOrder() {
        for (String pedigree : Pedigrees.FULL_ONES) {
            CHECKS.refused(pedigree, "child(7, 0) before FULL", x -> x.child(7, 0), GeneIdentity.BAD_ARG);
            CHECKS.refused(pedigree, "child(0, 7) before FULL", x -> x.child(0, 7), GeneIdentity.BAD_ARG);
            CHECKS.refused(pedigree, "child(-1, 6) before FULL", x -> x.child(-1, 6), GeneIdentity.BAD_ARG);
            CHECKS.refused(pedigree, "child(6, -1) before FULL", x -> x.child(6, -1), GeneIdentity.BAD_ARG);
            CHECKS.refused(pedigree, "child(7, 7) before FULL", x -> x.child(7, 7), GeneIdentity.BAD_ARG);
        }
    }

    private static void childNumbers() {
        for (int n = 1; n < 7; n++) {
            GeneIdentity x = new GeneIdentity();
            for (int i = 0; i < n; i++) {
                x.founder();
            }
            CHECKS.due("child(0, n - 1) after " + n + " founders", x.child(0, n - 1), n);
            CHECKS.due("members() then", x.members(), n + 1);
            CHECKS.due("ways() then", x.ways(), 4);
            CHECKS.due("from(0, n) then: n is no founder", x.from(0, n), GeneIdentity.NONE);
        }
        GeneIdentity x = Pedigrees.build(Pedigrees.FOUNDER_DROPPED);
        CHECKS.due("child(2, 1) in a dropped founder's place", x.child(2, 1), 3);
        CHECKS.due("from(3, 3) there", x.from(3, 3), GeneIdentity.NONE);
        CHECKS.due("line(3) there", x.line(3), 1 + 2 + 4 + 8);
        CHECKS.due("ways() there", x.ways(), 16);
    }

    private static void dropTakesTheLast() {
        GeneIdentity x = Pedigrees.build(Pedigrees.MIXED);
        x.drop();
        CHECKS.holds("a child dropped from a full object",
                Checks.answers(x).equals(Checks.answers(Pedigrees.build("F F 01 01 23 F"))));
        x.drop();
        CHECKS.holds("a founder dropped",
                Checks.answers(x).equals(Checks.answers(Pedigrees.build("F F 01 01 23"))));
        GeneIdentity y = Pedigrees.build("F 00");
        y.drop();
        CHECKS.holds("the last child dropped", Checks.answers(y).equals(Checks.answers(Pedigrees.build("F"))));
        y.drop();
        CHECKS.holds("the last member dropped", Checks.answers(y).equals(Checks.answers(new GeneIdentity())));
        CHECKS.due("line(0) of the dropped member", y.line(0), GeneIdentity.BAD_ARG);
    }

    private static void dropWhenEmpty() {
        CHECKS.refused(Pedigrees.EMPTY, "drop()", x -> x.drop(), GeneIdentity.NONE);
        CHECKS.refused(Pedigrees.EMPTIED, "drop()", x -> x.drop(), GeneIdentity.NONE);
        GeneIdentity x = Pedigrees.build("D D D F 00");
        CHECKS.due("members() after refused drops and two adds", x.members(), 2);
        CHECKS.due("ways() after refused drops and two adds", x.ways(), 4);
        CHECKS.due("drop() to 1", x.drop(), 1);
        CHECKS.due("drop() to 0", x.drop(), 0);
        CHECKS.due("drop() of none", x.drop(), GeneIdentity.NONE);
    }

    private static void dropCounts() {
        for (String pedigree : Pedigrees.ALL) {
            GeneIdentity x = Pedigrees.build(pedigree);
            for (int left = Pedigrees.size(pedigree) - 1; left >= 0; left--) {
                CHECKS.due("[" + pedigree + "] drop()", x.drop(), left);
                CHECKS.due("[" + pedigree + "] members() then", x.members(), left);
            }
            CHECKS.due("[" + pedigree + "] drop() of none", x.drop(), GeneIdentity.NONE);
        }
    }

    private static void members() {
        for (String pedigree : Pedigrees.ALL) {
            CHECKS.due("[" + pedigree + "] members()", Pedigrees.build(pedigree).members(), Pedigrees.size(pedigree));
        }
        CHECKS.due("members() of none", new GeneIdentity().members(), 0);
        CHECKS.due("members() when full", Pedigrees.build(Pedigrees.SEVEN_FOUNDERS + " F").members(), 7);
    }

    private static void ways() {
        CHECKS.due("ways() of no members", new GeneIdentity().ways(), 1);
        CHECKS.due("ways() of one founder", Pedigrees.build(Pedigrees.ONE_FOUNDER).ways(), 1);
        CHECKS.due("ways() of seven founders", Pedigrees.build(Pedigrees.SEVEN_FOUNDERS).ways(), 1);
        CHECKS.due("ways() of one child", Pedigrees.build("F 00").ways(), 4);
        CHECKS.due("ways() of six children", Pedigrees.build(Pedigrees.SELFED).ways(), 4096);
        GeneIdentity x = Pedigrees.build(Pedigrees.SELFED);
        for (int due = 1024; due >= 1; due /= 4) {
            x.drop();
            CHECKS.due("ways() after a child was dropped", x.ways(), due);
        }
        x.drop();
        CHECKS.due("ways() after all were dropped", x.ways(), 1);
        CHECKS.due("ways() after a founder was dropped", Pedigrees.build(Pedigrees.FOUNDER_DROPPED).ways(), 4);
    }
}
