/** Promises 1 to 6: a new object, founder, child, drop, members, ways. */
public final class MembersTest {
    private static final Checks CHECKS = new Checks();

    public static void main(String[] args) {
        newObject();
        founders();
        children();
        childRefusals();
        dropping();
        dropGivesRoomAndForgets();
        ways();
        objectsAreApart();
        longUse();
        CHECKS.finish();
    }

    private static void newObject() {
        GeneIdentity x = new GeneIdentity();
        CHECKS.due("new: members()", x.members(), 0);
        CHECKS.due("new: ways()", x.ways(), 1);
        CHECKS.due("new: drop()", x.drop(), GeneIdentity.NONE);
        CHECKS.due("new: inbred(0)", x.inbred(0), GeneIdentity.BAD_ARG);
        CHECKS.due("new: line(0)", x.line(0), GeneIdentity.BAD_ARG);
        CHECKS.due("new: child(0, 0)", x.child(0, 0), GeneIdentity.BAD_ARG);
        CHECKS.due("new: members() after refusals", x.members(), 0);
    }

    private static void founders() {
        GeneIdentity x = new GeneIdentity();
        for (int i = 0; i < 7; i++) {
            CHECKS.due("founder() no. " + i, x.founder(), i);
            CHECKS.due("members() after founder " + i, x.members(), i + 1);
            CHECKS.due("from(i, i) of founder " + i, x.from(i, i), 2);
        }
        CHECKS.due("founder() no. 7", x.founder(), GeneIdentity.FULL);
        CHECKS.due("members() when full", x.members(), 7);
        CHECKS.due("ways() of founders alone", x.ways(), 1);
    }

    private static void children() {
        GeneIdentity x = new GeneIdentity();
        x.founder();
        for (int i = 1; i < 7; i++) {
            CHECKS.due("child(i - 1, 0) no. " + i, x.child(i - 1, 0), i);
            CHECKS.due("members() after child " + i, x.members(), i + 1);
            CHECKS.due("from(0, i) of child " + i, x.from(0, i), GeneIdentity.NONE);
        }
        CHECKS.due("child(0, 0) with 6 children", x.child(0, 0), GeneIdentity.FULL);
        CHECKS.due("founder() with 6 children", x.founder(), GeneIdentity.FULL);
        CHECKS.due("members() when full", x.members(), 7);
    }

    private static void childRefusals() {
        GeneIdentity x = new GeneIdentity();
        x.founder();
        x.founder();
        int[] bad = {-1, 2, 7, 14, Integer.MAX_VALUE, Integer.MIN_VALUE};
        for (int b : bad) {
            CHECKS.due("child(" + b + ", 0)", x.child(b, 0), GeneIdentity.BAD_ARG);
            CHECKS.due("child(0, " + b + ")", x.child(0, b), GeneIdentity.BAD_ARG);
            CHECKS.due("child(" + b + ", " + b + ")", x.child(b, b), GeneIdentity.BAD_ARG);
        }
        CHECKS.due("members() after refusals", x.members(), 2);
        CHECKS.due("ways() after refusals", x.ways(), 1);
        for (int i = 2; i < 7; i++) {
            x.founder();
        }
        CHECKS.due("full: child(7, 0)", x.child(7, 0), GeneIdentity.BAD_ARG);
        CHECKS.due("full: child(0, 7)", x.child(0, 7), GeneIdentity.BAD_ARG);
        CHECKS.due("full: child(-1, 0)", x.child(-1, 0), GeneIdentity.BAD_ARG);
        CHECKS.due("full: child(6, 0)", x.child(6, 0), GeneIdentity.FULL);
        CHECKS.due("full, no child: ways()", x.ways(), 1);
    }

    private static void dropping() {
        GeneIdentity x = Checks.siblingsChild();
        for (int left = 4; left >= 0; left--) {
            CHECKS.due("drop() to " + left, x.drop(), left);
            CHECKS.due("members() at " + left, x.members(), left);
            CHECKS.due("ways() at " + left, x.ways(), left > 2 ? 1 << (2 * (left - 2)) : 1);
            CHECKS.due("line(dropped) at " + left, x.line(left), GeneIdentity.BAD_ARG);
            CHECKS.due("inbred(dropped) at " + left, x.inbred(left), GeneIdentity.BAD_ARG);
        }
        CHECKS.due("drop() of none", x.drop(), GeneIdentity.NONE);
        CHECKS.due("drop() of none again", x.drop(), GeneIdentity.NONE);
        CHECKS.due("members() of none", x.members(), 0);
        CHECKS.due("founder() after all were dropped", x.founder(), 0);
    }

    private static void dropGivesRoomAndForgets() {
        GeneIdentity x = Checks.siblingsChild();
        x.drop();
        CHECKS.due("founder() in place of child 4", x.founder(), 4);
        CHECKS.due("line(4) of the founder", x.line(4), 16);
        CHECKS.due("inbred(4) of the founder", x.inbred(4), 0);
        CHECKS.due("from(4, 4) of the founder", x.from(4, 4), 32);
        CHECKS.due("related(4, 2) of the founder", x.related(4, 2), 0);
        CHECKS.due("ways() with the founder", x.ways(), 16);
        x.drop();
        CHECKS.due("child(2, 2) in place of founder 4", x.child(2, 2), 4);
        CHECKS.due("line(4) of the child", x.line(4), 23);
        CHECKS.due("inbred(4) of the child", x.inbred(4), 32);
        CHECKS.due("from(4, 4) of the child", x.from(4, 4), GeneIdentity.NONE);
        CHECKS.due("founder() 5", x.founder(), 5);
        CHECKS.due("founder() 6", x.founder(), 6);
        CHECKS.due("founder() 7", x.founder(), GeneIdentity.FULL);
        CHECKS.due("drop() of a founder", x.drop(), 6);
        CHECKS.due("ways() stays when a founder goes", x.ways(), 64);
        CHECKS.due("child(5, 4) after the drop", x.child(5, 4), 6);
        CHECKS.due("ways() with the new child", x.ways(), 256);
    }

    private static void ways() {
        GeneIdentity x = new GeneIdentity();
        x.founder();
        int due = 1;
        for (int i = 1; i < 7; i++) {
            CHECKS.due("ways() with " + (i - 1) + " children", x.ways(), due);
            x.child(0, i - 1);
            due *= 4;
        }
        CHECKS.due("ways() with 6 children", x.ways(), 4096);
        x.child(0, 0);
        CHECKS.due("ways() after a refused child", x.ways(), 4096);
    }

    private static void objectsAreApart() {
        GeneIdentity x = Checks.siblingsChild();
        GeneIdentity y = new GeneIdentity();
        CHECKS.due("members() of another object", y.members(), 0);
        y.founder();
        y.child(0, 0);
        CHECKS.due("inbred(4) beside another object", x.inbred(4), 16);
        CHECKS.due("inbred(1) of the other object", y.inbred(1), 2);
        CHECKS.due("members() of the first object", x.members(), 5);
    }

    /** 512 calls in all: as many as are promised. */
    private static void longUse() {
        GeneIdentity x = new GeneIdentity();
        CHECKS.due("long use: founder()", x.founder(), 0);
        for (int n = 0; n < 127; n++) {
            CHECKS.due("long use: child(0, 0)", x.child(0, 0), 1);
            CHECKS.due("long use: drop() of the child", x.drop(), 1);
            CHECKS.due("long use: founder()", x.founder(), 1);
            CHECKS.due("long use: drop() of the founder", x.drop(), 1);
        }
        CHECKS.due("long use: ways()", x.ways(), 1);
        CHECKS.due("long use: child(0, 0) at the end", x.child(0, 0), 1);
        CHECKS.due("long use: inbred(1)", x.inbred(1), 2);
    }
}
