/** What promises 7 to 16 say of boundaries, sentence by sentence. */
public final class BoundaryQuestionsTest {
    private static final Checks CHECKS = new Checks();

    /** A question about members; whatever else it takes is fixed. */
    private interface Question {
        int ask(GeneIdentity x, int[] m);
    }

    public static void main(String[] args) {
        absentMembers("7: inbred", 1, (x, m) -> x.inbred(m[0]));
        absentMembers("8: two", 2, (x, m) -> x.two(m[0], m[1]));
        absentMembers("9: three", 3, (x, m) -> x.three(m[0], m[1], m[2]));
        absentMembers("10: four", 4, (x, m) -> x.four(m[0], m[1], m[2], m[3]));
        absentMembers("11: pairs", 4, (x, m) -> x.pairs(m[0], m[1], m[2], m[3]));
        absentMembers("12: state with s = 1", 2, (x, m) -> x.state(m[0], m[1], 1));
        absentMembers("12: state with s = 9", 2, (x, m) -> x.state(m[0], m[1], 9));
        absentMembers("13: related", 2, (x, m) -> x.related(m[0], m[1]));
        absentMembers("14: from", 2, (x, m) -> x.from(m[0], m[1]));
        absentMembers("15: line", 1, (x, m) -> x.line(m[0]));

        CHECKS.sentence("7: In how many ways the own genes of member i are alike.", BoundaryQuestionsTest::inbred);
        CHECKS.sentence("8: four pairs of genes for each way, also if i = j", BoundaryQuestionsTest::two);
        CHECKS.sentence("9: such that all three are alike", BoundaryQuestionsTest::three);
        CHECKS.sentence("10: such that all four are alike", BoundaryQuestionsTest::four);
        CHECKS.sentence("11: such that those of i and j are alike, and those of k and l are alike",
                BoundaryQuestionsTest::pairs);
        CHECKS.sentence("12: NONE if i = j", BoundaryQuestionsTest::stateOfOne);
        CHECKS.sentence("12: BAD_ARG if s is not 1 to 9", BoundaryQuestionsTest::stateOutOfRange);
        CHECKS.sentence("12: In how many ways members i and j are in state s", BoundaryQuestionsTest::stateInRange);
        CHECKS.sentence("13: some gene of member i is alike with some gene of member j",
                BoundaryQuestionsTest::related);
        CHECKS.sentence("14: NONE if f is not a founder", BoundaryQuestionsTest::fromNoFounder);
        CHECKS.sentence("14: one of founder f's or a copy of one of them, over any number of steps",
                BoundaryQuestionsTest::from);
        CHECKS.sentence("15: The set (sum of 2^a) of member i and all members that are its parents",
                BoundaryQuestionsTest::line);
        CHECKS.sentence("16: state: BAD_ARG (a member that is not there, then s that is not 1 to 9) is tested"
                + " before NONE.", BoundaryQuestionsTest::stateOrder);
        CHECKS.sentence("16: from: BAD_ARG for both members is tested before NONE.",
                BoundaryQuestionsTest::fromOrder);
        CHECKS.finish();
    }

    private static void absentMembers(String name, int places, Question question) {
        CHECKS.sentence(name + ": In every question a member that is not there answers BAD_ARG.", () -> {
            for (String pedigree : Pedigrees.ALL) {
                oneAbsent(name, pedigree, places, question);
                edgesInEveryPlace(name, pedigree, places, question);
            }
        });
    }

    /** The other places hold the oldest or the youngest member, so that one place alone is wrong. */
    private static void oneAbsent(String name, String pedigree, int places, Question question) {
        int n = Pedigrees.size(pedigree);
        int[] others = {0, n == 0 ? 0 : n - 1};
        for (int place = 0; place < places; place++) {
            for (int other : others) {
                GeneIdentity x = Pedigrees.build(pedigree);
                for (int bad : Pedigrees.absent(n)) {
                    int[] m = {other, other, other, other};
                    m[place] = bad;
                    CHECKS.due("[" + pedigree + "] " + name + ", place " + place + " is " + bad,
                            question.ask(x, m), GeneIdentity.BAD_ARG);
                }
                CHECKS.holds("[" + pedigree + "] " + name + " changes nothing when refused",
                        Checks.answers(x).equals(Checks.answers(Pedigrees.build(pedigree))));
            }
        }
    }

    /** Every choice of -1, the least and the greatest number, and the one above it. */
    private static void edgesInEveryPlace(String name, String pedigree, int places, Question question) {
        int n = Pedigrees.size(pedigree);
        int[] edges = {-1, 0, n - 1, n};
        int choices = 1 << (2 * places);
        GeneIdentity x = Pedigrees.build(pedigree);
        for (int choice = 0; choice < choices; choice++) {
            int[] m = new int[places];
            boolean allThere = true;
            StringBuilder args = new StringBuilder();
            for (int place = 0; place < places; place++) {
                m[place] = edges[(choice >> (2 * place)) & 3];
                allThere &= m[place] >= 0 && m[place] < n;
                args.append(' ').append(m[place]);
            }
            boolean refused = question.ask(x, m) == GeneIdentity.BAD_ARG;
            CHECKS.holds("[" + pedigree + "] " + name + args + (allThere ? " is allowed" : " is BAD_ARG"),
                    refused != allThere);
        }
    }

    private static void inbred() {
        GeneIdentity founders = Pedigrees.build(Pedigrees.SEVEN_FOUNDERS);
        CHECKS.due("founders: inbred(0)", founders.inbred(0), 0);
        CHECKS.due("founders: inbred(6)", founders.inbred(6), 0);
        // Selfing again leaves half of the ways in which the own genes were still two.
        int[] due = {0, 2048, 3072, 3584, 3840, 3968, 4032};
        GeneIdentity x = Pedigrees.build(Pedigrees.SELFED);
        for (int i = 0; i < 7; i++) {
            CHECKS.due("selfed " + i + " times: inbred", x.inbred(i), due[i]);
        }
        GeneIdentity y = Pedigrees.build("F 00");
        CHECKS.due("inbred(1) of 4 ways", y.inbred(1), 2);
        y.child(0, 0);
        CHECKS.due("inbred(1) of 16 ways", y.inbred(1), 8);
        y.drop();
        CHECKS.due("inbred(1) of 4 ways again", y.inbred(1), 2);
    }

    private static void two() {
        CHECKS.due("one founder: two(0, 0)", Pedigrees.build("F").two(0, 0), 2);
        CHECKS.due("two founders: two(0, 1)", Pedigrees.build("F F").two(0, 1), 0);
        GeneIdentity x = Pedigrees.build(Pedigrees.SELFED);
        CHECKS.due("two(0, 0): 2 of 4 in each way", x.two(0, 0), 2 * 4096);
        CHECKS.due("two(1, 1)", x.two(1, 1), 4 * 2048 + 2 * 2048);
        CHECKS.due("two(6, 6), the greatest", x.two(6, 6), 4 * 4032 + 2 * 64);
        CHECKS.due("two(0, 6)", x.two(0, 6), 2 * 4096);
        CHECKS.due("two(6, 0)", x.two(6, 0), 2 * 4096);
    }

    private static void three() {
        CHECKS.due("one founder: three(0, 0, 0)", Pedigrees.build("F").three(0, 0, 0), 2);
        GeneIdentity founders = Pedigrees.build("F F");
        CHECKS.due("two founders: three(0, 0, 1)", founders.three(0, 0, 1), 0);
        CHECKS.due("two founders: three(0, 1, 0)", founders.three(0, 1, 0), 0);
        CHECKS.due("two founders: three(1, 0, 0)", founders.three(1, 0, 0), 0);
        GeneIdentity x = Pedigrees.build(Pedigrees.SELFED);
        CHECKS.due("three(0, 0, 0): 2 of 8 in each way", x.three(0, 0, 0), 2 * 4096);
        CHECKS.due("three(6, 6, 6), the greatest", x.three(6, 6, 6), 8 * 4032 + 2 * 64);
        CHECKS.due("three(0, 6, 6)", x.three(0, 6, 6), 4 * 4032 + 2 * 64);
        CHECKS.due("three(6, 0, 6)", x.three(6, 0, 6), 4 * 4032 + 2 * 64);
        CHECKS.due("three(6, 6, 0)", x.three(6, 6, 0), 4 * 4032 + 2 * 64);
    }

    private static void four() {
        CHECKS.due("one founder: four(0, 0, 0, 0)", Pedigrees.build("F").four(0, 0, 0, 0), 2);
        GeneIdentity founders = Pedigrees.build("F F");
        CHECKS.due("two founders: four(0, 0, 1, 1)", founders.four(0, 0, 1, 1), 0);
        CHECKS.due("two founders: four(0, 0, 0, 1)", founders.four(0, 0, 0, 1), 0);
        CHECKS.due("two founders: four(0, 0, 1, 0)", founders.four(0, 0, 1, 0), 0);
        CHECKS.due("two founders: four(0, 1, 0, 0)", founders.four(0, 1, 0, 0), 0);
        CHECKS.due("two founders: four(1, 0, 0, 0)", founders.four(1, 0, 0, 0), 0);
        GeneIdentity x = Pedigrees.build(Pedigrees.SELFED);
        CHECKS.due("four(0, 0, 0, 0): 2 of 16 in each way", x.four(0, 0, 0, 0), 2 * 4096);
        CHECKS.due("four(6, 6, 6, 6), the greatest", x.four(6, 6, 6, 6), 16 * 4032 + 2 * 64);
        CHECKS.due("four(0, 6, 6, 6)", x.four(0, 6, 6, 6), 8 * 4032 + 2 * 64);
        CHECKS.due("four(6, 6, 6, 0)", x.four(6, 6, 6, 0), 8 * 4032 + 2 * 64);
    }

    private static void pairs() {
        CHECKS.due("one founder: pairs(0, 0, 0, 0)", Pedigrees.build("F").pairs(0, 0, 0, 0), 4);
        GeneIdentity founders = Pedigrees.build("F F");
        CHECKS.due("two founders: pairs(0, 0, 1, 1)", founders.pairs(0, 0, 1, 1), 4);
        CHECKS.due("two founders: pairs(0, 1, 0, 1)", founders.pairs(0, 1, 0, 1), 0);
        CHECKS.due("two founders: pairs(0, 1, 1, 0)", founders.pairs(0, 1, 1, 0), 0);
        CHECKS.due("two founders: pairs(0, 0, 0, 1)", founders.pairs(0, 0, 0, 1), 0);
        CHECKS.due("two founders: pairs(0, 1, 0, 0)", founders.pairs(0, 1, 0, 0), 0);
        GeneIdentity x = Pedigrees.build(Pedigrees.SELFED);
        CHECKS.due("pairs(0, 0, 0, 0): 4 of 16 in each way", x.pairs(0, 0, 0, 0), 4 * 4096);
        CHECKS.due("pairs(6, 6, 6, 6), the greatest", x.pairs(6, 6, 6, 6), 16 * 4032 + 4 * 64);
        CHECKS.due("pairs(0, 0, 6, 6)", x.pairs(0, 0, 6, 6), 8 * 4032 + 4 * 64);
        CHECKS.due("pairs(6, 6, 0, 0)", x.pairs(6, 6, 0, 0), 8 * 4032 + 4 * 64);
        CHECKS.due("pairs(0, 6, 0, 6)", x.pairs(0, 6, 0, 6), 4 * 4032 + 4 * 64);
    }

    private static void stateOfOne() {
        for (String pedigree : Pedigrees.ALL) {
            for (int i = 0; i < Pedigrees.size(pedigree); i++) {
                int own = i;
                for (int s = 1; s <= 9; s++) {
                    CHECKS.due("[" + pedigree + "] state of " + i + " with itself, s = " + s,
                            Pedigrees.build(pedigree).state(i, i, s), GeneIdentity.NONE);
                }
                CHECKS.refused(pedigree, "state of " + i + " with itself", x -> x.state(own, own, 1),
                        GeneIdentity.NONE);
            }
        }
    }

    private static void stateOutOfRange() {
        int[] bad = {
            0, 10, -1, 11, -9, 16, 17, 32, 33, 256, 257, 65536, 65537, 1 << 30, Integer.MIN_VALUE,
            Integer.MIN_VALUE + 1, Integer.MAX_VALUE
        };
        String[] withTwo = {"F F", Pedigrees.SEVEN_FOUNDERS, Pedigrees.SIBLINGS_CHILD, Pedigrees.SELFED};
        for (String pedigree : withTwo) {
            int last = Pedigrees.size(pedigree) - 1;
            for (int s : bad) {
                CHECKS.refused(pedigree, "state(0, last, " + s + ")", x -> x.state(0, last, s), GeneIdentity.BAD_ARG);
                CHECKS.due("[" + pedigree + "] state(last, 0, " + s + ")",
                        Pedigrees.build(pedigree).state(last, 0, s), GeneIdentity.BAD_ARG);
            }
        }
    }

    private static void stateInRange() {
        states("F F 00 00", 2, 3, 2, 2, 4, 0, 4, 0, 4, 0, 0);
        states(Pedigrees.SEVEN_FOUNDERS, 0, 6, 0, 0, 0, 0, 0, 0, 0, 0, 1);
        states(Pedigrees.SEVEN_FOUNDERS, 6, 0, 0, 0, 0, 0, 0, 0, 0, 0, 1);
        states(Pedigrees.SELFED, 0, 6, 0, 0, 0, 0, 4032, 0, 64, 0, 0);
        states(Pedigrees.SELFED, 6, 0, 0, 0, 4032, 0, 0, 0, 64, 0, 0);
        states(Pedigrees.SELFED, 5, 6, 3968, 0, 0, 0, 64, 0, 64, 0, 0);
        states(Pedigrees.SELFED, 6, 5, 3968, 0, 64, 0, 0, 0, 64, 0, 0);
    }

    private static void states(String pedigree, int i, int j, int... due) {
        GeneIdentity x = Pedigrees.build(pedigree);
        int sum = 0;
        for (int s = 1; s <= 9; s++) {
            int got = x.state(i, j, s);
            CHECKS.due("[" + pedigree + "] state(" + i + ", " + j + ", " + s + ")", got, due[s - 1]);
            sum += got;
        }
        CHECKS.due("[" + pedigree + "] every way is in one state", sum, x.ways());
    }

    private static void related() {
        for (String pedigree : Pedigrees.ALL) {
            GeneIdentity x = Pedigrees.build(pedigree);
            for (int i = 0; i < Pedigrees.size(pedigree); i++) {
                CHECKS.due("[" + pedigree + "] related of " + i + " with itself", x.related(i, i), x.ways());
            }
        }
        CHECKS.due("founders: related(0, 6)", Pedigrees.build(Pedigrees.SEVEN_FOUNDERS).related(0, 6), 0);
        GeneIdentity x = Pedigrees.build(Pedigrees.SELFED);
        CHECKS.due("selfed: related(0, 6) in every way", x.related(0, 6), 4096);
        CHECKS.due("selfed: related(6, 0) in every way", x.related(6, 0), 4096);
        GeneIdentity y = Pedigrees.build(Pedigrees.CROSSED_BACK);
        CHECKS.due("crossed back: related(0, 2) in every way", y.related(0, 2), 1024);
        CHECKS.due("crossed back: related(0, 6)", y.related(0, 6), 64);
        CHECKS.due("crossed back: related(6, 0)", y.related(6, 0), 64);
        CHECKS.due("crossed back: related(1, 6) in every way", y.related(1, 6), 1024);
    }

    private static void fromNoFounder() {
        fromChildren(Pedigrees.SIBLINGS_CHILD, 2, 3, 4);
        fromChildren(Pedigrees.SELFED, 1, 2, 3, 4, 5, 6);
        fromChildren(Pedigrees.MIXED, 2, 3, 4, 6);
        // What counts is what stands at the number now, not what stood there before.
        fromChildren("F F D 00", 1);
        GeneIdentity x = Pedigrees.build("F 00 D F");
        CHECKS.due("from(1, 1) of a founder in a child's place", x.from(1, 1), 2);
        CHECKS.due("from(0, 1) of a founder in a child's place", x.from(0, 1), 0);
    }

    private static void fromChildren(String pedigree, int... children) {
        for (int f : children) {
            for (int i = 0; i < Pedigrees.size(pedigree); i++) {
                int member = i;
                CHECKS.refused(pedigree, "from(" + i + ", " + f + ")", x -> x.from(member, f), GeneIdentity.NONE);
            }
        }
    }

    private static void from() {
        GeneIdentity founders = Pedigrees.build(Pedigrees.SEVEN_FOUNDERS);
        for (int i = 0; i < 7; i++) {
            for (int f = 0; f < 7; f++) {
                CHECKS.due("founders: from(" + i + ", " + f + ")", founders.from(i, f), i == f ? 2 : 0);
            }
        }
        GeneIdentity x = Pedigrees.build(Pedigrees.SELFED);
        for (int i = 0; i < 7; i++) {
            CHECKS.due("selfed: from(" + i + ", 0), the greatest", x.from(i, 0), 8192);
        }
        GeneIdentity y = Pedigrees.build(Pedigrees.CROSSED_BACK);
        CHECKS.due("crossed back: from(2, 0) after one step", y.from(2, 0), 1024);
        CHECKS.due("crossed back: from(6, 0) after five steps", y.from(6, 0), 64);
        CHECKS.due("crossed back: from(6, 1)", y.from(6, 1), 1984);
        GeneIdentity z = Pedigrees.build(Pedigrees.MIXED);
        CHECKS.due("mixed: from(5, 5) of a young founder", z.from(5, 5), 512);
        CHECKS.due("mixed: from(4, 5) of an older member", z.from(4, 5), 0);
        CHECKS.due("mixed: from(6, 5) of its child", z.from(6, 5), 256);
    }

    private static void line() {
        GeneIdentity founders = Pedigrees.build(Pedigrees.SEVEN_FOUNDERS);
        GeneIdentity selfed = Pedigrees.build(Pedigrees.SELFED);
        for (int i = 0; i < 7; i++) {
            CHECKS.due("founders: line(" + i + ")", founders.line(i), 1 << i);
            CHECKS.due("selfed: line(" + i + ")", selfed.line(i), (2 << i) - 1);
        }
        CHECKS.due("one founder: line(0), the least", Pedigrees.build("F").line(0), 1);
        CHECKS.due("line of all seven members, the greatest",
                Pedigrees.build("F F 01 F 23 F 45").line(6), 127);
        CHECKS.due("a parent twice counts once", Pedigrees.build("F F F 22").line(3), 8 + 4);
        CHECKS.due("a grandparent twice counts once", Pedigrees.build(Pedigrees.SIBLINGS_CHILD).line(4), 31);
        GeneIdentity x = Pedigrees.build(Pedigrees.MIXED);
        CHECKS.due("mixed: line(5) of a young founder", x.line(5), 32);
        CHECKS.due("mixed: line(3) leaves its sibling out", x.line(3), 8 + 2 + 1);
        CHECKS.due("a founder in a child's place", Pedigrees.build("F 00 D F").line(1), 2);
        CHECKS.due("a child in a founder's place", Pedigrees.build("F F D 00").line(1), 3);
    }

    /** Both refusals of an argument answer BAD_ARG, so only their place before NONE can be seen. */
    private static void stateOrder() {
        for (String pedigree : Pedigrees.ALL) {
            int n = Pedigrees.size(pedigree);
            for (int s = 0; s <= 10; s++) {
                int asked = s;
                CHECKS.refused(pedigree, "state(n, n, " + s + ")", x -> x.state(n, n, asked), GeneIdentity.BAD_ARG);
                CHECKS.refused(pedigree, "state(-1, -1, " + s + ")", x -> x.state(-1, -1, asked),
                        GeneIdentity.BAD_ARG);
            }
            for (int i = 0; i < n; i++) {
                GeneIdentity x = Pedigrees.build(pedigree);
                String who = "[" + pedigree + "] state of " + i + " with itself";
                CHECKS.due(who + ", s = 0", x.state(i, i, 0), GeneIdentity.BAD_ARG);
                CHECKS.due(who + ", s = 10", x.state(i, i, 10), GeneIdentity.BAD_ARG);
                CHECKS.due(who + ", s = 1", x.state(i, i, 1), GeneIdentity.NONE);
                CHECKS.due(who + ", s = 9", x.state(i, i, 9), GeneIdentity.NONE);
            }
        }
    }

    private static void fromOrder() {
        String[] withChild = {"F 00", Pedigrees.SIBLINGS_CHILD, Pedigrees.SELFED, Pedigrees.CROSSED_BACK};
        for (String pedigree : withChild) {
            int n = Pedigrees.size(pedigree);
            int child = n - 1;
            for (int bad : Pedigrees.absent(n)) {
                GeneIdentity x = Pedigrees.build(pedigree);
                String who = "[" + pedigree + "] from, " + bad;
                CHECKS.due(who + " as i, f is a child", x.from(bad, child), GeneIdentity.BAD_ARG);
                CHECKS.due(who + " as f, i is a child", x.from(child, bad), GeneIdentity.BAD_ARG);
                CHECKS.due(who + " as both", x.from(bad, bad), GeneIdentity.BAD_ARG);
                CHECKS.due("[" + pedigree + "] from, both are there", x.from(0, child), GeneIdentity.NONE);
            }
        }
    }
}
