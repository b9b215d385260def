import java.util.ArrayList;
import java.util.Arrays;
import java.util.List;

/**
 * Compares every answer with one that is read from the list of all pairings, as the document's terms say it:
 * for all ways to put lines between five points, and for a fixed row of ways to put them between all eight.
 */
public final class PairingListTest {
    private static final int POINTS = 8;
    private static final int MIXED_FIGURES = 1500;

    private static int wrong = 0;
    private static long state = 20261115L;

    // The pairings that the eight points would have with all lines there, as rows of partners (8: left out).
    private static final List<int[]> ALL_PAIRINGS = new ArrayList<>();

    private static boolean[][] line = new boolean[POINTS][POINTS];
    private static List<int[]> pairings;
    private static List<int[]> greatest;
    private static int most;

    private static void due(String call, int got, int want) {
        if (got != want) {
            wrong++;
            if (wrong <= 40) {
                System.out.println(call + " answered " + got + ", due is " + want + ", lines " + figure());
            }
        }
    }

    private static void due(String call, boolean got, boolean want) {
        due(call, got ? 1 : 0, want ? 1 : 0);
    }

    private static String figure() {
        StringBuilder text = new StringBuilder();
        for (int p = 0; p < POINTS; p++) {
            for (int q = p + 1; q < POINTS; q++) {
                if (line[p][q]) {
                    text.append(p).append(q).append(' ');
                }
            }
        }
        return text.toString();
    }

    private static int next(int bound) {
        state = state * 6364136223846793005L + 1442695040888963407L;
        return (int) ((state >>> 33) % bound);
    }

    private static void listAll(int[] partners, int p) {
        if (p == POINTS) {
            ALL_PAIRINGS.add(partners.clone());
            return;
        }
        if (partners[p] != POINTS) {
            listAll(partners, p + 1);
            return;
        }
        listAll(partners, p + 1);
        for (int q = p + 1; q < POINTS; q++) {
            if (partners[q] == POINTS) {
                partners[p] = q;
                partners[q] = p;
                listAll(partners, p + 1);
                partners[p] = POINTS;
                partners[q] = POINTS;
            }
        }
    }

    private static int linesNotThere(int[] pairing) {
        int count = 0;
        for (int p = 0; p < POINTS; p++) {
            if (pairing[p] != POINTS && p < pairing[p] && !line[p][pairing[p]]) {
                count++;
            }
        }
        return count;
    }

    /** The points that the pairing does not leave out. */
    private static int taken(int[] pairing) {
        int set = 0;
        for (int p = 0; p < POINTS; p++) {
            if (pairing[p] != POINTS) {
                set |= 1 << p;
            }
        }
        return set;
    }

    private static int size(int[] pairing) {
        return Integer.bitCount(taken(pairing)) / 2;
    }

    private static void listPairings() {
        pairings = new ArrayList<>();
        greatest = new ArrayList<>();
        most = 0;
        for (int[] pairing : ALL_PAIRINGS) {
            if (linesNotThere(pairing) == 0) {
                pairings.add(pairing);
                most = Math.max(most, size(pairing));
            }
        }
        for (int[] pairing : pairings) {
            if (size(pairing) == most) {
                greatest.add(pairing);
            }
        }
    }

    private static int near(int p) {
        int set = 0;
        for (int q = 0; q < POINTS; q++) {
            if (line[p][q]) {
                set |= 1 << q;
            }
        }
        return set;
    }

    /** A new object, since one is only used for 512 calls. */
    private static PairingParts build() {
        PairingParts x = new PairingParts();
        for (int p = 0; p < POINTS; p++) {
            for (int q = p + 1; q < POINTS; q++) {
                if (line[p][q]) {
                    due("line(" + p + ", " + q + ")", x.line(q, p), 1);
                }
            }
        }
        return x;
    }

    private static void checkLines(PairingParts x) {
        for (int p = 0; p < POINTS; p++) {
            due("lines(" + p + ", same)", x.lines(p, near(p) | 1 << p), near(p));
        }
    }

    private static int[] firstOfGreatest() {
        int[] first = greatest.get(0);
        for (int[] pairing : greatest) {
            if (Arrays.compare(pairing, first) < 0) {
                first = pairing;
            }
        }
        return first;
    }

    private static void checkPartners(PairingParts x) {
        int[] first = firstOfGreatest();
        for (int p = 0; p < POINTS; p++) {
            due("partner(" + p + ")", x.partner(p), first[p] == POINTS ? PairingParts.NONE : first[p]);
        }
    }

    private static void checkParts(PairingParts x) {
        int loose = 0;
        for (int[] pairing : greatest) {
            loose |= 255 & ~taken(pairing);
        }
        int beside = 0;
        for (int p = 0; p < POINTS; p++) {
            if ((near(p) & loose) != 0 && (loose & 1 << p) == 0) {
                beside |= 1 << p;
            }
        }
        due("loose()", x.loose(), loose);
        due("beside()", x.beside(), beside);
        due("fast()", x.fast(), 255 - loose - beside);
    }

    private static void checkCanAndMust(PairingParts x) {
        for (int p = 0; p < POINTS; p++) {
            for (int q = 0; q < POINTS; q++) {
                int count = 0;
                for (int[] pairing : greatest) {
                    if (pairing[p] == q) {
                        count++;
                    }
                }
                due("can(" + p + ", " + q + ")", x.can(p, q), count > 0);
                due("must(" + p + ", " + q + ")", x.must(p, q), count == greatest.size());
            }
        }
    }

    private static void checkMostIn(PairingParts x) {
        for (int set = 0; set < 256; set++) {
            int within = 0;
            for (int[] pairing : pairings) {
                if ((taken(pairing) & ~set) == 0) {
                    within = Math.max(within, size(pairing));
                }
            }
            due("mostIn(" + set + ")", x.mostIn(set), within);
        }
    }

    private static void checkCritical(PairingParts x) {
        boolean[] full = new boolean[256];
        for (int[] pairing : pairings) {
            full[taken(pairing)] = true;
        }
        for (int set = 0; set < 256; set++) {
            boolean want = Integer.bitCount(set) % 2 == 1;
            for (int p = 0; p < POINTS; p++) {
                if ((set & 1 << p) != 0) {
                    want &= full[set - (1 << p)];
                }
            }
            due("critical(" + set + ")", x.critical(set), want);
        }
    }

    /** The odd parts by giving each point that stays the least name of those it is connected with. */
    private static int oddParts(int away) {
        int[] name = new int[POINTS];
        for (int p = 0; p < POINTS; p++) {
            name[p] = p;
        }
        for (int p = 0; p < POINTS; p++) {
            for (int q = 0; q < POINTS; q++) {
                if (line[p][q] && (away & (1 << p | 1 << q)) == 0) {
                    int from = name[q];
                    for (int r = 0; r < POINTS; r++) {
                        if (name[r] == from) {
                            name[r] = name[p];
                        }
                    }
                }
            }
        }
        int[] size = new int[POINTS];
        for (int p = 0; p < POINTS; p++) {
            if ((away & 1 << p) == 0) {
                size[name[p]]++;
            }
        }
        int count = 0;
        for (int s : size) {
            count += s % 2;
        }
        return count;
    }

    private static void checkOddAndBound(PairingParts x) {
        int least = 16;
        for (int set = 0; set < 256; set++) {
            int want = oddParts(set);
            due("odd(" + set + ")", x.odd(set), want);
            least = Math.min(least, 8 + Integer.bitCount(set) - want);
        }
        due("bound()", x.bound(), least / 2);
    }

    private static void checkMissing(PairingParts x) {
        int least = 4;
        for (int[] pairing : ALL_PAIRINGS) {
            if (size(pairing) == 4) {
                least = Math.min(least, linesNotThere(pairing));
            }
        }
        due("missing()", x.missing(), least);
    }

    private static void checkFigure() {
        listPairings();
        PairingParts x = build();
        due("most()", x.most(), most);
        checkPartners(x);
        checkParts(x);
        checkCanAndMust(x);
        checkMissing(x);
        checkLines(x);
        due("most() after lines", x.most(), most);
        checkMostIn(build());
        checkCritical(build());
        PairingParts y = build();
        checkOddAndBound(y);
        checkLines(y);
    }

    private static void put(int p, int q) {
        line[p][q] = true;
        line[q][p] = true;
    }

    private static void checkAllOfFivePoints() {
        int[] where = {6, 1, 4, 0, 7};
        for (int code = 0; code < 1024; code++) {
            line = new boolean[POINTS][POINTS];
            int bit = 0;
            for (int a = 0; a < 5; a++) {
                for (int b = a + 1; b < 5; b++) {
                    if ((code >> bit & 1) != 0) {
                        put(where[a], where[b]);
                    }
                    bit++;
                }
            }
            checkFigure();
        }
    }

    private static void checkMixed() {
        for (int n = 0; n < MIXED_FIGURES; n++) {
            line = new boolean[POINTS][POINTS];
            int share = 1 + n % 16;
            for (int p = 0; p < POINTS; p++) {
                for (int q = p + 1; q < POINTS; q++) {
                    if (next(16) < share) {
                        put(p, q);
                    }
                }
            }
            checkFigure();
        }
    }

    /** One object through a row of changes, three calls for each, asked after each, so that no answer can be of an earlier figure. */
    private static void checkChanges() {
        PairingParts x = new PairingParts();
        line = new boolean[POINTS][POINTS];
        for (int n = 0; n < 160; n++) {
            int p = next(POINTS);
            if (n % 3 == 0) {
                int set = next(256) & next(256);
                due("lines(" + p + ", " + set + ")", x.lines(p, set), near(p));
                for (int q = 0; q < POINTS; q++) {
                    line[p][q] = p != q && (set >> q & 1) != 0;
                    line[q][p] = line[p][q];
                }
            } else {
                int q = (p + 1 + next(POINTS - 1)) % POINTS;
                line[p][q] = !line[p][q];
                line[q][p] = line[p][q];
                due("line(" + p + ", " + q + ")", x.line(p, q), line[p][q] ? 1 : 0);
            }
            listPairings();
            due("most()", x.most(), most);
            int first = firstOfGreatest()[p];
            due("partner(" + p + ")", x.partner(p), first == POINTS ? PairingParts.NONE : first);
        }
    }

    public static void main(String[] args) {
        int[] none = new int[POINTS];
        Arrays.fill(none, POINTS);
        listAll(none, 0);
        due("the number of all pairings of eight points", ALL_PAIRINGS.size(), 764);
        checkAllOfFivePoints();
        checkMixed();
        checkChanges();
        System.out.println(wrong == 0 ? "all answers are as the list of pairings says" : wrong + " answers are not as due");
        if (wrong != 0) {
            System.exit(1);
        }
    }
}
