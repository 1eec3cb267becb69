/** A pedigree, and in how many ways genes of its members come from the same gene of a founder. */
public final class GeneIdentity {
    public static final int BAD_ARG = -1;
    public static final int FULL = -2;
    public static final int NONE = -4;

    private static final int MAX_MEMBERS = 7;
    private static final int MAX_CHILDREN = 6;
    private static final int MAX_GENES = 14;
    private static final int NO_PARENT = -1;
    private static final int FIRST_STATE = 1;
    private static final int LAST_STATE = 9;

    private final int[] firstParent = new int[MAX_MEMBERS];
    private final int[] secondParent = new int[MAX_MEMBERS];
    private final int[] lineSet = new int[MAX_MEMBERS];

    // The founder's gene that each gene comes from, in the way laid out last. The genes of
    // member i stand at 2i and 2i + 1, and a founder's gene is named by its own place, so two
    // genes are alike just when their origins are equal.
    private final int[] origin = new int[MAX_GENES];

    private int memberCount;
    private int childCount;

    public GeneIdentity() {
        memberCount = 0;
        childCount = 0;
    }

    public int founder() {
        if (memberCount >= MAX_MEMBERS) {
            return FULL;
        }
        int added = memberCount;
        firstParent[added] = NO_PARENT;
        secondParent[added] = NO_PARENT;
        lineSet[added] = 1 << added;
        memberCount++;
        return added;
    }

    public int child(int a, int b) {
        if (!isMember(a) || !isMember(b)) {
            return BAD_ARG;
        }
        if (memberCount >= MAX_MEMBERS || childCount >= MAX_CHILDREN) {
            return FULL;
        }
        int added = memberCount;
        firstParent[added] = a;
        secondParent[added] = b;
        lineSet[added] = (1 << added) | lineSet[a] | lineSet[b];
        memberCount++;
        childCount++;
        return added;
    }

    public int drop() {
        if (memberCount == 0) {
            return NONE;
        }
        memberCount--;
        if (!isFounder(memberCount)) {
            childCount--;
        }
        return memberCount;
    }

    public int members() {
        return memberCount;
    }

    public int ways() {
        return 1 << (2 * childCount);
    }

    public int inbred(int i) {
        if (!isMember(i)) {
            return BAD_ARG;
        }
        int total = ways();
        int count = 0;
        for (int way = 0; way < total; way++) {
            layOut(way);
            if (ownAlike(i)) {
                count++;
            }
        }
        return count;
    }

    public int two(int i, int j) {
        if (!isMember(i) || !isMember(j)) {
            return BAD_ARG;
        }
        int total = ways();
        int count = 0;
        for (int way = 0; way < total; way++) {
            layOut(way);
            count += alikeTwos(i, j);
        }
        return count;
    }

    public int three(int i, int j, int k) {
        if (!isMember(i) || !isMember(j) || !isMember(k)) {
            return BAD_ARG;
        }
        int total = ways();
        int count = 0;
        for (int way = 0; way < total; way++) {
            layOut(way);
            count += alikeThrees(i, j, k);
        }
        return count;
    }

    public int four(int i, int j, int k, int l) {
        if (!isMember(i) || !isMember(j) || !isMember(k) || !isMember(l)) {
            return BAD_ARG;
        }
        int total = ways();
        int count = 0;
        for (int way = 0; way < total; way++) {
            layOut(way);
            count += alikeFours(i, j, k, l);
        }
        return count;
    }

    public int pairs(int i, int j, int k, int l) {
        if (!isMember(i) || !isMember(j) || !isMember(k) || !isMember(l)) {
            return BAD_ARG;
        }
        int total = ways();
        int count = 0;
        for (int way = 0; way < total; way++) {
            layOut(way);
            // Within one way the choice for i and j leaves the choice for k and l free.
            count += alikeTwos(i, j) * alikeTwos(k, l);
        }
        return count;
    }

    public int state(int i, int j, int s) {
        if (!isMember(i) || !isMember(j)) {
            return BAD_ARG;
        }
        if (s < FIRST_STATE || s > LAST_STATE) {
            return BAD_ARG;
        }
        if (i == j) {
            return NONE;
        }
        int total = ways();
        int count = 0;
        for (int way = 0; way < total; way++) {
            layOut(way);
            if (stateNow(i, j) == s) {
                count++;
            }
        }
        return count;
    }

    public int related(int i, int j) {
        if (!isMember(i) || !isMember(j)) {
            return BAD_ARG;
        }
        int total = ways();
        int count = 0;
        for (int way = 0; way < total; way++) {
            layOut(way);
            if (alikeTwos(i, j) > 0) {
                count++;
            }
        }
        return count;
    }

    public int from(int i, int f) {
        if (!isMember(i) || !isMember(f)) {
            return BAD_ARG;
        }
        if (!isFounder(f)) {
            return NONE;
        }
        int total = ways();
        int count = 0;
        for (int way = 0; way < total; way++) {
            layOut(way);
            count += copiesOf(2 * f, i) + copiesOf(2 * f + 1, i);
        }
        return count;
    }

    public int line(int i) {
        if (!isMember(i)) {
            return BAD_ARG;
        }
        return lineSet[i];
    }

    private boolean isMember(int i) {
        return i >= 0 && i < memberCount;
    }

    private boolean isFounder(int i) {
        return firstParent[i] == NO_PARENT;
    }

    /** Writes the origins for one way; each child takes two bits of the way's number. */
    private void layOut(int way) {
        int choices = way;
        // Parents have smaller numbers, so their origins are written before they are read.
        for (int i = 0; i < memberCount; i++) {
            if (isFounder(i)) {
                origin[2 * i] = 2 * i;
                origin[2 * i + 1] = 2 * i + 1;
            } else {
                origin[2 * i] = origin[2 * firstParent[i] + (choices & 1)];
                origin[2 * i + 1] = origin[2 * secondParent[i] + ((choices >> 1) & 1)];
                choices >>= 2;
            }
        }
    }

    private boolean ownAlike(int i) {
        return origin[2 * i] == origin[2 * i + 1];
    }

    /** How many of the two genes of member i come from the founder's gene. */
    private int copiesOf(int gene, int i) {
        int count = 0;
        if (origin[2 * i] == gene) {
            count++;
        }
        if (origin[2 * i + 1] == gene) {
            count++;
        }
        return count;
    }

    private int alikeTwos(int i, int j) {
        int count = 0;
        for (int own = 0; own < 2; own++) {
            int gene = origin[2 * i + own];
            count += copiesOf(gene, j);
        }
        return count;
    }

    private int alikeThrees(int i, int j, int k) {
        int count = 0;
        for (int own = 0; own < 2; own++) {
            int gene = origin[2 * i + own];
            count += copiesOf(gene, j) * copiesOf(gene, k);
        }
        return count;
    }

    private int alikeFours(int i, int j, int k, int l) {
        int count = 0;
        for (int own = 0; own < 2; own++) {
            int gene = origin[2 * i + own];
            count += copiesOf(gene, j) * copiesOf(gene, k) * copiesOf(gene, l);
        }
        return count;
    }

    /** The state of two different members in the way laid out last. */
    private int stateNow(int i, int j) {
        int shared = alikeTwos(i, j);
        boolean alikeInI = ownAlike(i);
        boolean alikeInJ = ownAlike(j);
        if (alikeInI && alikeInJ) {
            return shared > 0 ? 1 : 2;
        }
        if (alikeInI) {
            return shared > 0 ? 3 : 4;
        }
        if (alikeInJ) {
            return shared > 0 ? 5 : 6;
        }
        // Neither has own genes alike, so each gene has at most one partner: 0, 1 or 2 are shared.
        return LAST_STATE - shared;
    }
}
