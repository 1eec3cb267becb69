/**
 * Pedigrees written as words: F adds a founder, two digits a child of these two members, D drops the last
 * member.
 */
final class Pedigrees {
    static final String EMPTY = "";
    static final String ONE_FOUNDER = "F";
    static final String SEVEN_FOUNDERS = "F F F F F F F";
    static final String SIBLINGS_CHILD = "F F 01 01 23";
    /** Full with 6 children; each member but the first has the one before it as both parents. */
    static final String SELFED = "F 00 11 22 33 44 55";
    /** Full with 5 children; each member from 3 on is a child of the one before it and founder 1. */
    static final String CROSSED_BACK = "F F 01 21 31 41 51";
    /** Full with 4 children and 3 founders, one of them young. */
    static final String MIXED = "F F 01 01 23 F 45";
    /** Four members are left of five: the last one was a child. */
    static final String CHILD_DROPPED = "F F 01 01 23 D";
    /** Three members are left of four: the last one was a founder. */
    static final String FOUNDER_DROPPED = "F F 01 F D";
    /** No member is left of two. */
    static final String EMPTIED = "F 00 D D";

    static final String[] ALL = {
        EMPTY, ONE_FOUNDER, SEVEN_FOUNDERS, SIBLINGS_CHILD, SELFED, CROSSED_BACK, MIXED, CHILD_DROPPED,
        FOUNDER_DROPPED, EMPTIED
    };
    static final String[] FULL_ONES = {SEVEN_FOUNDERS, SELFED, CROSSED_BACK, MIXED};

    private Pedigrees() {
    }

    static GeneIdentity build(String words) {
        GeneIdentity x = new GeneIdentity();
        for (String word : split(words)) {
            if (word.equals("F")) {
                x.founder();
            } else if (word.equals("D")) {
                x.drop();
            } else {
                x.child(word.charAt(0) - '0', word.charAt(1) - '0');
            }
        }
        return x;
    }

    static int size(String words) {
        int n = 0;
        for (String word : split(words)) {
            n += word.equals("D") ? -1 : 1;
        }
        return n;
    }

    /**
     * Numbers of no member where there are n: the nearest ones, the farthest ones, and those that become
     * 0 or a small number where a wider number is cut, doubled or shifted by.
     */
    static int[] absent(int n) {
        return new int[] {
            -1, n, -2, n + 1, 7, 8, 13, 14, 16, 32, 33, 64, 128, 256, 257, 65536, 65537, 1 << 30, -8, -32, -256, -65536,
            Integer.MIN_VALUE, Integer.MIN_VALUE + 1, Integer.MAX_VALUE - 1, Integer.MAX_VALUE
        };
    }

    private static String[] split(String words) {
        return words.isEmpty() ? new String[0] : words.split(" ");
    }
}
