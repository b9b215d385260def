/** Each promise by hand: ordinary inputs, the edges that the document names, and wrong inputs. */
public final class PromisesTest {
    private static final int BAD_ARG = PairingParts.BAD_ARG;
    private static final int NONE = PairingParts.NONE;
    private static final int[] BAD_POINTS = {-1, 8, 9, 31, 32, 33, -8, -32, 255, Integer.MIN_VALUE, Integer.MAX_VALUE};
    private static final int[] BAD_SETS = {-1, 256, 257, 511, 512, -256, Integer.MIN_VALUE, Integer.MAX_VALUE};

    private static int wrong = 0;

    private static void due(String call, int got, int want) {
        if (got != want) {
            wrong++;
            System.out.println(call + " answered " + got + ", due is " + want);
        }
    }

    private static void due(String call, boolean got, boolean want) {
        if (got != want) {
            wrong++;
            System.out.println(call + " answered " + got + ", due is " + want);
        }
    }

    /** A new object with the lines "01 12 ..". */
    private static PairingParts with(String lines) {
        PairingParts x = new PairingParts();
        if (!lines.isEmpty()) {
            for (String pair : lines.split(" ")) {
                x.line(pair.charAt(0) - '0', pair.charAt(1) - '0');
            }
        }
        return x;
    }

    /** The set of the points named by digits. */
    private static int set(String points) {
        int set = 0;
        for (char c : points.toCharArray()) {
            set |= 1 << (c - '0');
        }
        return set;
    }

    /** The set that p has lines to, read by a change that is taken back. */
    private static int near(PairingParts x, int p) {
        int had = x.lines(p, 0);
        x.lines(p, had);
        return had;
    }

    private static void dueLines(String when, PairingParts x, String... near) {
        for (int p = 0; p < 8; p++) {
            due(when + ": points near " + p, near(x, p), set(p < near.length ? near[p] : ""));
        }
    }

    private static void promise1New() {
        dueLines("new", new PairingParts());
        PairingParts x = new PairingParts();
        due("new most()", x.most(), 0);
        due("new bound()", x.bound(), 0);
        due("new missing()", x.missing(), 4);
        due("new loose()", x.loose(), 255);
        due("new beside()", x.beside(), 0);
        due("new fast()", x.fast(), 0);
        PairingParts other = new PairingParts();
        other.line(0, 1);
        due("new most() beside another object with a line", x.most(), 0);
    }

    private static void promise2Line() {
        PairingParts x = new PairingParts();
        due("line(0, 7)", x.line(0, 7), 1);
        due("line(7, 0) takes it out", x.line(7, 0), 0);
        due("line(7, 0) puts it in", x.line(7, 0), 1);
        due("line(3, 4)", x.line(3, 4), 1);
        due("line(3, 0)", x.line(3, 0), 1);
        dueLines("after line", x, "37", "", "", "04", "3", "", "", "0");
        due("line(3, 4) takes it out", x.line(3, 4), 0);
        dueLines("after the second line(3, 4)", x, "37", "", "", "0", "", "", "", "0");
        for (int bad : BAD_POINTS) {
            due("line(" + bad + ", 0)", x.line(bad, 0), BAD_ARG);
            due("line(0, " + bad + ")", x.line(0, bad), BAD_ARG);
            due("line(" + bad + ", " + bad + ")", x.line(bad, bad), BAD_ARG);
        }
        for (int p = 0; p < 8; p++) {
            due("line(" + p + ", " + p + ")", x.line(p, p), BAD_ARG);
        }
        due("most() after refused line", x.most(), 1);
        dueLines("after refused line", x, "37", "", "", "0", "", "", "", "0");
    }

    private static void promise3Lines() {
        PairingParts x = new PairingParts();
        due("lines(2, 0,5,7)", x.lines(2, set("057")), 0);
        due("lines(2, 1,2,5)", x.lines(2, set("125")), set("057"));
        dueLines("p itself does not matter", x, "", "2", "15", "", "", "2");
        due("lines(5, all)", x.lines(5, 255), set("2"));
        dueLines("after all", x, "5", "25", "15", "5", "5", "0123467", "5", "5");
        due("lines(5, only itself)", x.lines(5, set("5")), set("0123467"));
        dueLines("after only itself", x, "", "2", "1");
        for (int bad : BAD_POINTS) {
            due("lines(" + bad + ", 3)", x.lines(bad, 3), BAD_ARG);
        }
        for (int bad : BAD_SETS) {
            due("lines(0, " + bad + ")", x.lines(0, bad), BAD_ARG);
            due("lines(8, " + bad + ")", x.lines(8, bad), BAD_ARG);
        }
        due("most() after refused lines", x.most(), 1);
        dueLines("after refused lines", x, "", "2", "1");
    }

    private static void promise4Most() {
        due("most() of a star", with("07 17 27 37").most(), 1);
        due("most() of two triangles", with("01 12 02 34 45 35").most(), 2);
        due("most() of joined triangles", with("01 12 02 34 45 35 23").most(), 3);
        due("most() where the greedy choice is wrong", with("01 02 13").most(), 2);
        due("most() of four lines", with("07 16 25 34").most(), 4);
        PairingParts x = with("07 16 25 34");
        x.line(2, 5);
        due("most() after line took one out", x.most(), 3);
        x.lines(7, 0);
        due("most() after lines took one out", x.most(), 2);
    }

    private static void promise5MostIn() {
        PairingParts x = with("01 12 23 34 45 56 67");
        due("mostIn(all)", x.mostIn(255), 4);
        due("mostIn(none)", x.mostIn(0), 0);
        due("mostIn(1 to 6)", x.mostIn(set("123456")), 3);
        due("mostIn(0,2,4,6)", x.mostIn(set("0246")), 0);
        due("mostIn(0,1,2,7)", x.mostIn(set("0127")), 1);
        due("mostIn(6,7)", x.mostIn(set("67")), 1);
        due("mostIn(7)", x.mostIn(set("7")), 0);
        for (int bad : BAD_SETS) {
            due("mostIn(" + bad + ")", x.mostIn(bad), BAD_ARG);
        }
    }

    private static void duePartners(String lines, int... want) {
        PairingParts x = with(lines);
        for (int p = 0; p < 8; p++) {
            due("partner(" + p + ") with " + lines, x.partner(p), want[p]);
        }
    }

    private static void promise6Partner() {
        duePartners("", NONE, NONE, NONE, NONE, NONE, NONE, NONE, NONE);
        // The lesser partner comes first, but only among the greatest pairings.
        duePartners("01 02 13", 2, 3, 0, 1, NONE, NONE, NONE, NONE);
        duePartners("01 02 12 13 23", 1, 0, 3, 2, NONE, NONE, NONE, NONE);
        // Being left out comes last, so the greatest points of an odd part are.
        duePartners("01 12 02", 1, 0, NONE, NONE, NONE, NONE, NONE, NONE);
        duePartners("05 15 25", 5, NONE, NONE, NONE, NONE, 0, NONE, NONE);
        duePartners("06 07 16 17 26 27", 6, 7, NONE, NONE, NONE, NONE, 0, 1);
        duePartners("67 57 47", NONE, NONE, NONE, NONE, 7, NONE, NONE, 4);
        PairingParts x = with("01");
        for (int bad : BAD_POINTS) {
            due("partner(" + bad + ")", x.partner(bad), BAD_ARG);
        }
    }

    private static void dueParts(String lines, String loose, String beside, String fast) {
        PairingParts x = with(lines);
        due("loose() with " + lines, x.loose(), set(loose));
        due("beside() with " + lines, x.beside(), set(beside));
        due("fast() with " + lines, x.fast(), set(fast));
    }

    private static void promises7To9Parts() {
        dueParts("", "01234567", "", "");
        dueParts("01", "234567", "", "01");
        dueParts("01 12", "0234567", "1", "");
        dueParts("01 12 02", "01234567", "", "");
        dueParts("07 16 25 34", "", "", "01234567");
        // 3 is beside, its neighbours 4 and 5 are not: 4 and 5 are fast though 4 has a line to 3.
        dueParts("03 13 23 34 45", "01267", "3", "45");
        // 1 and 2 are both beside, with a line between them.
        dueParts("12 10 13 24 25", "034567", "12", "");
    }

    private static void promise10Can() {
        PairingParts x = with("01 12 23 45");
        due("can(0, 1)", x.can(0, 1), true);
        due("can(1, 0)", x.can(1, 0), true);
        due("can(1, 2), a line of no greatest pairing", x.can(1, 2), false);
        due("can(3, 2)", x.can(3, 2), true);
        due("can(4, 5)", x.can(4, 5), true);
        due("can(0, 2), no line", x.can(0, 2), false);
        due("can(6, 7), no line between two left out", x.can(6, 7), false);
        due("can(5, 6), no line", x.can(5, 6), false);
        for (int p = 0; p < 8; p++) {
            due("can(" + p + ", " + p + ")", x.can(p, p), false);
        }
        for (int bad : BAD_POINTS) {
            due("can(" + bad + ", 0)", x.can(bad, 0), false);
            due("can(0, " + bad + ")", x.can(0, bad), false);
            due("can(" + bad + ", " + bad + ")", x.can(bad, bad), false);
        }
    }

    private static void promise11Must() {
        PairingParts x = with("01 12 23 45 56");
        due("must(0, 1)", x.must(0, 1), true);
        due("must(1, 0)", x.must(1, 0), true);
        due("must(1, 2)", x.must(1, 2), false);
        due("must(3, 2)", x.must(3, 2), true);
        due("must(4, 5), where 4 can be left out", x.must(4, 5), false);
        due("must(5, 4), where 5 can have another", x.must(5, 4), false);
        due("must(5, 6)", x.must(5, 6), false);
        due("must(6, 7), no line", x.must(6, 7), false);
        due("must(0, 3), no line", x.must(0, 3), false);
        due("must in a ring of four", with("01 12 23 03").must(0, 1), false);
        due("must(0, 1) alone", with("01").must(0, 1), true);
        for (int p = 0; p < 8; p++) {
            due("must(" + p + ", " + p + ")", x.must(p, p), false);
        }
        for (int bad : BAD_POINTS) {
            due("must(" + bad + ", 0)", x.must(bad, 0), false);
            due("must(0, " + bad + ")", x.must(0, bad), false);
            due("must(" + bad + ", " + bad + ")", x.must(bad, bad), false);
        }
    }

    private static void promise12Critical() {
        PairingParts x = with("01 12 23 34 40 45 56 67 57");
        due("critical(none)", x.critical(0), false);
        for (int p = 0; p < 8; p++) {
            due("critical(only " + p + ")", x.critical(1 << p), true);
        }
        due("critical(ring of five)", x.critical(set("01234")), true);
        due("critical(triangle)", x.critical(set("567")), true);
        due("critical(way of three)", x.critical(set("012")), false);
        due("critical(two points)", x.critical(set("01")), false);
        due("critical(all), an even number", x.critical(255), false);
        due("critical(0,1,2,3,4,5,7)", x.critical(set("0123457")), false);
        x.line(4, 6);
        due("critical(4 to 7), an even number", x.critical(set("4567")), false);
        due("critical(ring and triangle in 4)", x.critical(set("0123456")), true);
        for (int bad : BAD_SETS) {
            due("critical(" + bad + ")", x.critical(bad), false);
        }
    }

    private static void promise13Odd() {
        PairingParts x = with("01 12 23 34 45 56 67");
        due("odd(none)", x.odd(0), 0);
        due("odd(all)", x.odd(255), 0);
        due("odd(0)", x.odd(set("0")), 1);
        due("odd(1)", x.odd(set("1")), 1);
        due("odd(1,3,5)", x.odd(set("135")), 3);
        due("odd(0,7)", x.odd(set("07")), 0);
        due("odd(1,6)", x.odd(set("16")), 2);
        due("odd() of a long way in a bad order", with("07 71 16 62 25 53 34").odd(0), 0);
        due("odd() of a long way of seven", with("07 71 16 62 25 53").odd(0), 2);
        for (int bad : BAD_SETS) {
            due("odd(" + bad + ")", x.odd(bad), BAD_ARG);
        }
    }

    private static void promise14Bound() {
        due("bound() of a star", with("07 17 27 37 47 57 67").bound(), 1);
        due("bound() of two centres", with("06 07 16 17 26 27 36 37").bound(), 2);
        due("bound() of two triangles", with("01 12 02 34 45 35").bound(), 2);
        due("bound() of four lines", with("07 16 25 34").bound(), 4);
    }

    private static void promise15Missing() {
        due("missing() of a star", with("07 17 27 37 47 57 67").missing(), 3);
        due("missing() of two triangles", with("01 12 02 34 45 35").missing(), 2);
        due("missing() of joined triangles", with("01 12 02 34 45 35 23").missing(), 1);
        due("missing() of four lines", with("07 16 25 34").missing(), 0);
    }

    public static void main(String[] args) {
        promise1New();
        promise2Line();
        promise3Lines();
        promise4Most();
        promise5MostIn();
        promise6Partner();
        promises7To9Parts();
        promise10Can();
        promise11Must();
        promise12Critical();
        promise13Odd();
        promise14Bound();
        promise15Missing();
        System.out.println(wrong == 0 ? "all promises hold" : wrong + " answers are not as due");
        if (wrong != 0) {
            System.exit(1);
        }
    }
}
