public final class PairingParts {
    public static final int BAD_ARG = -1;
    public static final int NONE = -4;

    private static final int POINTS = 8;
    private static final int SETS = 256;
    private static final int ALL = 255;

    // near[p] is the set of the points that p has lines to: it never has p, and q is in near[p] when p is in near[q].
    private final int[] near = new int[POINTS];

    // pairs[set] is the number of lines of a greatest pairing within the set, kept true after every change of a line.
    private final int[] pairs = new int[SETS];

    public PairingParts() {
        // Both arrays are all 0, which is just what holds when there is no line.
    }

    public int line(int p, int q) {
        if (!isPoint(p) || !isPoint(q) || p == q) {
            return BAD_ARG;
        }
        near[p] ^= 1 << q;
        near[q] ^= 1 << p;
        fillPairs();
        return isLine(p, q) ? 1 : 0;
    }

    public int lines(int p, int set) {
        if (!isPoint(p) || !isSet(set)) {
            return BAD_ARG;
        }
        int before = near[p];
        int after = without(set, p);
        near[p] = after;
        for (int q = 0; q < POINTS; q++) {
            if (has(after, q)) {
                near[q] |= 1 << p;
            } else {
                near[q] = without(near[q], p);
            }
        }
        fillPairs();
        return before;
    }

    public int most() {
        return pairs[ALL];
    }

    public int mostIn(int set) {
        return isSet(set) ? pairs[set] : BAD_ARG;
    }

    public int partner(int p) {
        if (!isPoint(p)) {
            return BAD_ARG;
        }
        int found = NONE;
        int rest = ALL;
        // The first pairing is settled point by point, since the partner of a lesser point weighs more.
        for (int a = 0; a <= p; a++) {
            if (has(rest, a)) {
                int b = firstPartner(a, rest);
                if (a == p) {
                    found = b;
                } else if (b == p) {
                    found = a;
                }
                rest = without(rest, a);
                if (b != NONE) {
                    rest = without(rest, b);
                }
            }
        }
        return found;
    }

    public int loose() {
        int set = 0;
        for (int p = 0; p < POINTS; p++) {
            if (isLoose(p)) {
                set |= 1 << p;
            }
        }
        return set;
    }

    public int beside() {
        int loosePoints = loose();
        int set = 0;
        for (int p = 0; p < POINTS; p++) {
            if (!has(loosePoints, p) && (near[p] & loosePoints) != 0) {
                set |= 1 << p;
            }
        }
        return set;
    }

    public int fast() {
        return ALL & ~loose() & ~beside();
    }

    public boolean can(int p, int q) {
        return isPoint(p) && isPoint(q) && isPairIn(p, q, ALL);
    }

    public boolean must(int p, int q) {
        if (!isPoint(p) || !isPoint(q) || !isLine(p, q) || isLoose(p)) {
            return false;
        }
        // Every greatest pairing has p now, so it has the line unless it gives p another partner.
        for (int r = 0; r < POINTS; r++) {
            if (r != q && isPairIn(p, r, ALL)) {
                return false;
            }
        }
        return true;
    }

    public boolean critical(int set) {
        if (!isSet(set)) {
            return false;
        }
        int size = sizeOf(set);
        if (size % 2 == 0) {
            return false;
        }
        for (int p = 0; p < POINTS; p++) {
            int rest = without(set, p);
            if (has(set, p) && 2 * pairs[rest] != size - 1) {
                return false;
            }
        }
        return true;
    }

    public int odd(int set) {
        return isSet(set) ? oddParts(set) : BAD_ARG;
    }

    public int bound() {
        // The empty set gives at most 8, so this start is never the answer on its own.
        int least = 2 * POINTS;
        for (int set = 0; set < SETS; set++) {
            int value = POINTS + sizeOf(set) - oddParts(set);
            if (value < least) {
                least = value;
            }
        }
        return least / 2;
    }

    public int missing() {
        // A new line adds one pair at most, and one between two left out points always does.
        return POINTS / 2 - pairs[ALL];
    }

    private static boolean isPoint(int p) {
        return p >= 0 && p < POINTS;
    }

    private static boolean isSet(int set) {
        return set >= 0 && set < SETS;
    }

    private static boolean has(int set, int p) {
        return (set & (1 << p)) != 0;
    }

    private static int without(int set, int p) {
        return set & ~(1 << p);
    }

    private static int sizeOf(int set) {
        int size = 0;
        for (int p = 0; p < POINTS; p++) {
            if (has(set, p)) {
                size++;
            }
        }
        return size;
    }

    private boolean isLine(int p, int q) {
        return has(near[p], q);
    }

    private boolean isLoose(int p) {
        int rest = without(ALL, p);
        return pairs[rest] == pairs[ALL];
    }

    // Whether some greatest one of the pairings within the set, which has p and q, has the line between them.
    private boolean isPairIn(int p, int q, int set) {
        int rest = set & ~(1 << p) & ~(1 << q);
        return isLine(p, q) && 1 + pairs[rest] == pairs[set];
    }

    private int firstPartner(int p, int rest) {
        for (int q = 0; q < POINTS; q++) {
            if (has(rest, q) && isPairIn(p, q, rest)) {
                return q;
            }
        }
        return NONE;
    }

    private void fillPairs() {
        // The sets come in the order of their numbers, so that those with fewer points are known when they are needed.
        for (int p = 0; p < POINTS; p++) {
            int end = 2 << p;
            for (int set = 1 << p; set < end; set++) {
                pairs[set] = pairsByTop(set, p);
            }
        }
    }

    // The entry of a set whose greatest point is top: top is left out or gets one of the others.
    private int pairsByTop(int set, int top) {
        int rest = without(set, top);
        int best = pairs[rest];
        for (int q = 0; q < top; q++) {
            if (has(rest, q) && isLine(top, q)) {
                int others = without(rest, q);
                int count = 1 + pairs[others];
                if (count > best) {
                    best = count;
                }
            }
        }
        return best;
    }

    private int oddParts(int away) {
        int stay = ALL & ~away;
        int seen = 0;
        int count = 0;
        for (int p = 0; p < POINTS; p++) {
            if (has(stay, p) && !has(seen, p)) {
                int part = partOf(p, stay);
                seen |= part;
                count += sizeOf(part) % 2;
            }
        }
        return count;
    }

    // The points of stay that p is connected with through stay, p with them.
    private int partOf(int p, int stay) {
        int part = 1 << p;
        // Seven rounds do, since a way that meets no point twice has at most seven lines.
        for (int step = 1; step < POINTS; step++) {
            int reached = part;
            for (int q = 0; q < POINTS; q++) {
                if (has(part, q)) {
                    reached |= near[q] & stay;
                }
            }
            part = reached;
        }
        return part;
    }
}
