import java.util.ArrayList;
import java.util.Arrays;
import java.util.List;
import java.util.Random;

/**
 * Promises 2 to 15 on many pedigrees, against counts reached by other roads: every small pedigree, and
 * large ones from a fixed seed.
 *
 * Ways are walked child by child, and genes are told apart by tracing each one back to its founder.
 * The counts of two, three, four and pairs are also reached without ways: what is drawn from the
 * youngest member is handed to its parents until only founders are left.
 */
public final class OracleTest {
    private static final Checks CHECKS = new Checks();
    private static final int FOUNDER = -1;

    public static void main(String[] args) {
        everyPedigree(new int[0][], 4);
        Random random = new Random(20261115L);
        for (int n = 0; n < 60; n++) {
            compare(randomPedigree(random, 5 + n % 3));
        }
        CHECKS.finish();
    }

    private static void everyPedigree(int[][] parents, int most) {
        compare(parents);
        if (parents.length == most) {
            return;
        }
        everyPedigree(with(parents, FOUNDER, FOUNDER), most);
        for (int a = 0; a < parents.length; a++) {
            for (int b = 0; b < parents.length; b++) {
                everyPedigree(with(parents, a, b), most);
            }
        }
    }

    private static int[][] with(int[][] parents, int a, int b) {
        int[][] more = Arrays.copyOf(parents, parents.length + 1);
        more[parents.length] = new int[] {a, b};
        return more;
    }

    private static int[][] randomPedigree(Random random, int size) {
        int[][] parents = {{FOUNDER, FOUNDER}};
        while (parents.length < size) {
            boolean founder = random.nextInt(4) == 0;
            int a = founder ? FOUNDER : random.nextInt(parents.length);
            int b = founder ? FOUNDER : random.nextInt(parents.length);
            parents = with(parents, a, b);
        }
        return parents;
    }

    private static void compare(int[][] parents) {
        String who = Arrays.deepToString(parents) + ": ";
        List<int[][]> ways = new ArrayList<>();
        walkWays(parents, 0, new int[parents.length][2], ways);
        GeneIdentity whole = build(parents, who);
        CHECKS.due(who + "ways()", whole.ways(), ways.size());
        CHECKS.due(who + "members()", whole.members(), parents.length);
        for (int i = 0; i < parents.length; i++) {
            // A new object for each member: nothing is promised after an object's 512th call.
            GeneIdentity x = build(parents, who);
            compareOne(who, x, parents, ways, i);
            for (int j = 0; j < parents.length; j++) {
                compareTwo(who, x, parents, ways, i, j);
                compareDraws(who, x, parents, i, j);
            }
        }
    }

    private static GeneIdentity build(int[][] parents, String who) {
        GeneIdentity x = new GeneIdentity();
        for (int i = 0; i < parents.length; i++) {
            int number = parents[i][0] == FOUNDER ? x.founder() : x.child(parents[i][0], parents[i][1]);
            CHECKS.due(who + "number", number, i);
        }
        return x;
    }

    /** Collects, for each way, the names of all genes; a name tells the founder and its gene. */
    private static void walkWays(int[][] parents, int next, int[][] copied, List<int[][]> ways) {
        if (next == parents.length) {
            int[][] names = new int[next][2];
            for (int i = 0; i < next; i++) {
                names[i][0] = trace(parents, copied, i, 0);
                names[i][1] = trace(parents, copied, i, 1);
            }
            ways.add(names);
            return;
        }
        int choices = parents[next][0] == FOUNDER ? 1 : 4;
        for (int c = 0; c < choices; c++) {
            copied[next][0] = c / 2;
            copied[next][1] = c % 2;
            walkWays(parents, next + 1, copied, ways);
        }
    }

    private static int trace(int[][] parents, int[][] copied, int member, int gene) {
        if (parents[member][0] == FOUNDER) {
            return 100 * member + gene;
        }
        return trace(parents, copied, parents[member][gene], copied[member][gene]);
    }

    private static void compareOne(String who, GeneIdentity x, int[][] parents, List<int[][]> ways, int i) {
        int inbred = 0;
        for (int[][] names : ways) {
            inbred += names[i][0] == names[i][1] ? 1 : 0;
        }
        CHECKS.due(who + "inbred(" + i + ")", x.inbred(i), inbred);
        int line = 0;
        for (int a = 0; a < parents.length; a++) {
            line += descends(parents, i, a) ? 1 << a : 0;
        }
        CHECKS.due(who + "line(" + i + ")", x.line(i), line);
    }

    private static boolean descends(int[][] parents, int i, int from) {
        if (i == from) {
            return true;
        }
        return parents[i][0] != FOUNDER
                && (descends(parents, parents[i][0], from) || descends(parents, parents[i][1], from));
    }

    private static void compareTwo(String who, GeneIdentity x, int[][] parents, List<int[][]> ways, int i, int j) {
        int[] inState = new int[10];
        int related = 0;
        int from = 0;
        for (int[][] names : ways) {
            inState[stateByPattern(names[i], names[j])]++;
            boolean some = false;
            for (int own : names[i]) {
                some |= own == names[j][0] || own == names[j][1];
                from += own / 100 == j ? 1 : 0;
            }
            related += some ? 1 : 0;
        }
        String args = "(" + i + ", " + j;
        for (int s = 1; s <= 9; s++) {
            CHECKS.due(who + "state" + args + ", " + s + ")", x.state(i, j, s),
                    i == j ? GeneIdentity.NONE : inState[s]);
        }
        CHECKS.due(who + "related" + args + ")", x.related(i, j), related);
        CHECKS.due(who + "from" + args + ")", x.from(i, j),
                parents[j][0] == FOUNDER ? from : GeneIdentity.NONE);
    }

    /** The state read from the fifteen patterns of four genes, each gene lettered by its first like. */
    private static int stateByPattern(int[] i, int[] j) {
        int[] genes = {i[0], i[1], j[0], j[1]};
        StringBuilder pattern = new StringBuilder();
        for (int g : genes) {
            int first = 0;
            while (genes[first] != g) {
                first++;
            }
            pattern.append((char) ('a' + first));
        }
        switch (pattern.toString()) {
            case "aaaa": return 1;
            case "aacc": return 2;
            case "aaad": case "aaca": return 3;
            case "aacd": return 4;
            case "abaa": case "abbb": return 5;
            case "abcc": return 6;
            case "abab": case "abba": return 7;
            case "abad": case "abca": case "abbd": case "abcb": return 8;
            case "abcd": return 9;
            default: throw new IllegalStateException("no state: " + pattern);
        }
    }

    private static void compareDraws(String who, GeneIdentity x, int[][] parents, int i, int j) {
        int n = parents.length;
        CHECKS.due(who + "two" + Arrays.toString(new int[] {i, j}), x.two(i, j),
                count(parents, 4, new int[] {i, j}, new int[] {0, 0}));
        // All choices of k would take long: one for each i and j still meets every member.
        int k = (3 * i + 5 * j + n / 2) % n;
        for (int l = 0; l < n; l++) {
            compareLongDraws(who, x, parents, new int[] {i, j, k, l});
        }
    }

    private static void compareLongDraws(String who, GeneIdentity x, int[][] parents, int[] m) {
        String args = Arrays.toString(m);
        CHECKS.due(who + "three" + args, x.three(m[0], m[1], m[3]),
                count(parents, 8, new int[] {m[0], m[1], m[3]}, new int[] {0, 0, 0}));
        CHECKS.due(who + "four" + args, x.four(m[0], m[1], m[2], m[3]),
                count(parents, 16, m, new int[] {0, 0, 0, 0}));
        CHECKS.due(who + "pairs" + args, x.pairs(m[0], m[1], m[2], m[3]),
                count(parents, 16, m, new int[] {0, 0, 1, 1}));
    }

    private static long count(int[][] parents, int choices, int[] drawn, int[] group) {
        long ways = 1;
        for (int[] p : parents) {
            ways *= p[0] == FOUNDER ? 1 : 4;
        }
        // Chances here are sums of powers of two, so a double holds them exactly.
        double all = chance(parents, drawn, group) * choices * ways;
        CHECKS.holds("a count is whole", all == Math.rint(all));
        return (long) all;
    }

    /** The chance that genes drawn at random, one from each named member, are alike within each group. */
    private static double chance(int[][] parents, int[] drawn, int[] group) {
        if (drawn.length == 0) {
            return 1;
        }
        int youngest = Arrays.stream(drawn).max().getAsInt();
        int[] at = new int[drawn.length];
        int draws = 0;
        for (int d = 0; d < drawn.length; d++) {
            if (drawn[d] == youngest) {
                at[draws++] = d;
            }
        }
        double sum = 0;
        for (int picks = 0; picks < 1 << draws; picks++) {
            sum += chanceOfPicks(parents, drawn, group, at, draws, picks);
        }
        return sum / (1 << draws);
    }

    private static double chanceOfPicks(
            int[][] parents, int[] drawn, int[] group, int[] at, int draws, int picks) {
        int[] merged = group.clone();
        int[] holder = {-1, -1};
        boolean[] gone = new boolean[drawn.length];
        for (int d = 0; d < draws; d++) {
            int gene = picks >> d & 1;
            if (holder[gene] < 0) {
                holder[gene] = at[d];
            } else {
                // The same gene drawn twice is one draw, and ties the groups that both stand in.
                replace(merged, merged[at[d]], merged[holder[gene]]);
                gone[at[d]] = true;
            }
        }
        int[] handed = drawn.clone();
        for (int gene = 0; gene < 2; gene++) {
            if (holder[gene] < 0) {
                continue;
            }
            if (parents[drawn[holder[gene]]][0] == FOUNDER) {
                // Nothing older comes from this founder, so the gene must stand alone in its group.
                if (!alone(merged, gone, holder[gene])) {
                    return 0;
                }
                gone[holder[gene]] = true;
            } else {
                handed[holder[gene]] = parents[drawn[holder[gene]]][gene];
            }
        }
        return chance(parents, kept(handed, gone), kept(merged, gone));
    }

    private static void replace(int[] values, int old, int now) {
        for (int v = 0; v < values.length; v++) {
            values[v] = values[v] == old ? now : values[v];
        }
    }

    private static boolean alone(int[] group, boolean[] gone, int one) {
        for (int d = 0; d < group.length; d++) {
            if (d != one && !gone[d] && group[d] == group[one]) {
                return false;
            }
        }
        return true;
    }

    private static int[] kept(int[] values, boolean[] gone) {
        int[] left = new int[values.length];
        int n = 0;
        for (int v = 0; v < values.length; v++) {
            if (!gone[v]) {
                left[n++] = values[v];
            }
        }
        return Arrays.copyOf(left, n);
    }
}
