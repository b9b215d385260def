import java.util.function.Supplier;
import java.util.function.ToIntFunction;

/**
 * The boundary cases that the document names. Each of its sentences has a method of its own, named by the promise
 * (or "terms"), with the sentence above it. No object gets more than 512 calls.
 */
public final class BoundaryTest {
    private static final int BAD_ARG = PairingParts.BAD_ARG;
    private static final int NONE = PairingParts.NONE;
    private static final int LEAST = Integer.MIN_VALUE;
    private static final int GREATEST = Integer.MAX_VALUE;

    // Next to the range, the ends of int, and numbers that become points if shifts or narrower types wrap around.
    private static final int[] NO_POINTS = {
        -1, 8, LEAST, GREATEST, -2, -7, -8, 9, 15, 16, 31, 32, 33, 39, 40, 63, 64, -31, -32, 255, 256, 257, 263, -256,
        65536, 65537, LEAST + 1, LEAST + 7, GREATEST - 1};
    private static final int[] NO_SETS = {
        -1, 256, LEAST, GREATEST, -2, -128, -255, -256, 257, 258, 511, 512, 65536, 65539, LEAST + 1, LEAST + 255,
        GREATEST - 1};

    // No line, one, pairs apart, ways, stars and odd parts: with loose points and without, beside and fast ones.
    private static final String[] FIGURES = {
        "", "01", "67", "07 16 25 34", "01 12 23 34 45 56 67", "01 12 02 23 34 45", "07 17 27 37 47 57 67",
        "03 13 23 34 45", "01 12 23 34 04 45 56 67 57", "06 07 16 17 26 27"};

    private static int wrong = 0;

    private static void due(String call, int got, int want) {
        if (got != want) {
            wrong++;
            if (wrong <= 60) {
                System.out.println(call + " answered " + got + ", due is " + want);
            }
        }
    }

    private static void due(String call, boolean got, boolean want) {
        due(call, got ? 1 : 0, want ? 1 : 0);
    }

    // ---- figures ----

    /** A new object with the lines "01 12 ..". */
    private static PairingParts with(String lines) {
        PairingParts x = new PairingParts();
        if (!lines.isEmpty()) {
            for (String pair : lines.split(" ")) {
                x.line(pair.charAt(0) - '0', pair.charAt(1) - '0');
            }
        }
        return x;
    }

    private static int set(String points) {
        int set = 0;
        for (char c : points.toCharArray()) {
            set |= 1 << (c - '0');
        }
        return set;
    }

    /** The set that p has lines to, read by a change that is taken back. */
    private static int near(PairingParts x, int p) {
        int had = x.lines(p, 0);
        x.lines(p, had);
        return had;
    }

    private static PairingParts everyLineByLine() {
        PairingParts x = new PairingParts();
        for (int p = 0; p < 8; p++) {
            for (int q = 0; q < p; q++) {
                x.line(p, q);
            }
        }
        return x;
    }

    private static PairingParts everyLineByLines() {
        PairingParts x = new PairingParts();
        for (int p = 0; p < 8; p++) {
            x.lines(p, 255);
        }
        return x;
    }

    private static PairingParts emptiedByLine() {
        PairingParts x = everyLineByLines();
        for (int p = 0; p < 8; p++) {
            for (int q = 0; q < p; q++) {
                x.line(q, p);
            }
        }
        return x;
    }

    private static PairingParts emptiedByLines() {
        PairingParts x = everyLineByLine();
        for (int p = 0; p < 8; p++) {
            x.lines(p, 0);
        }
        return x;
    }

    /** The call on an object without a line, whichever way it came to be so. */
    private static void dueWithNoLine(String call, ToIntFunction<PairingParts> ask, int want) {
        due(call + " of a new object", ask.applyAsInt(new PairingParts()), want);
        due(call + " with every line taken out by line", ask.applyAsInt(emptiedByLine()), want);
        due(call + " with every line taken out by lines", ask.applyAsInt(emptiedByLines()), want);
    }

    private static void dueWithEveryLine(String call, ToIntFunction<PairingParts> ask, int want) {
        due(call + " with every line put in by line", ask.applyAsInt(everyLineByLine()), want);
        due(call + " with every line put in by lines", ask.applyAsInt(everyLineByLines()), want);
    }

    // ---- all answers of two objects, to see that a refused call changed nothing ----

    /** At most 400 calls on each of the two. */
    private static void sameLinesAndPairings(String when, PairingParts got, PairingParts want) {
        due(when + ": most()", got.most(), want.most());
        due(when + ": loose()", got.loose(), want.loose());
        due(when + ": beside()", got.beside(), want.beside());
        due(when + ": fast()", got.fast(), want.fast());
        due(when + ": bound()", got.bound(), want.bound());
        due(when + ": missing()", got.missing(), want.missing());
        for (int p = 0; p < 8; p++) {
            due(when + ": partner(" + p + ")", got.partner(p), want.partner(p));
            for (int q = 0; q < p; q++) {
                due(when + ": can(" + p + ", " + q + ")", got.can(p, q), want.can(p, q));
                due(when + ": must(" + p + ", " + q + ")", got.must(p, q), want.must(p, q));
            }
        }
        for (int set = 0; set < 256; set++) {
            due(when + ": mostIn(" + set + ")", got.mostIn(set), want.mostIn(set));
        }
        for (int p = 0; p < 8; p++) {
            due(when + ": lines(" + p + ", none)", got.lines(p, 0), want.lines(p, 0));
        }
    }

    private static void sameOdd(String when, PairingParts got, PairingParts want) {
        for (int set = 0; set < 256; set++) {
            due(when + ": odd(" + set + ")", got.odd(set), want.odd(set));
        }
    }

    private static void sameCritical(String when, PairingParts got, PairingParts want) {
        for (int set = 0; set < 256; set++) {
            due(when + ": critical(" + set + ")", got.critical(set), want.critical(set));
        }
    }

    private static PairingParts after(Supplier<PairingParts> make, ToIntFunction<PairingParts> call) {
        PairingParts x = make.get();
        call.applyAsInt(x);
        return x;
    }

    private static void changesNothing(String name, ToIntFunction<PairingParts> call) {
        for (String figure : FIGURES) {
            String when = "lines " + figure + " after the refused " + name;
            changesNothing(when, () -> with(figure), call);
        }
        changesNothing("every line, after the refused " + name, () -> everyLineByLines(), call);
    }

    private static void changesNothing(String when, Supplier<PairingParts> make, ToIntFunction<PairingParts> call) {
        sameLinesAndPairings(when, after(make, call), make.get());
        sameOdd(when, after(make, call), make.get());
        sameCritical(when, after(make, call), make.get());
    }

    // ---- Terms ----

    /** "No call ever throws." */
    private static void termsNoCallThrows() {
        String[] figures = {"", "01 12 02 23 34 45", "07 16 25 34"};
        int[] odd = {LEAST, -256, -33, -1, 0, 3, 7, 8, 31, 32, 255, 256, GREATEST};
        for (String figure : figures) {
            for (int a : odd) {
                PairingParts x = with(figure);
                try {
                    callAll(x, a, odd);
                } catch (RuntimeException | Error thrown) {
                    wrong++;
                    System.out.println("lines " + figure + ": a call with " + a + " threw " + thrown);
                }
            }
        }
    }

    private static void callAll(PairingParts x, int a, int[] others) {
        x.mostIn(a);
        x.partner(a);
        x.critical(a);
        x.odd(a);
        for (int b : others) {
            x.line(a, b);
            x.lines(a, b);
            x.can(a, b);
            x.must(a, b);
            x.most();
            x.loose();
            x.beside();
            x.fast();
            x.bound();
            x.missing();
        }
    }

    /** "A refused call answers the code named and changes nothing." (line and lines have theirs further down.) */
    private static void termsARefusedQuestionChangesNothing() {
        changesNothing("mostIn(-1)", x -> x.mostIn(-1));
        changesNothing("mostIn(256)", x -> x.mostIn(256));
        changesNothing("partner(-1)", x -> x.partner(-1));
        changesNothing("partner(8)", x -> x.partner(8));
        changesNothing("can(8, 0)", x -> x.can(8, 0) ? 1 : 0);
        changesNothing("must(0, -1)", x -> x.must(0, -1) ? 1 : 0);
        changesNothing("critical(-1)", x -> x.critical(-1) ? 1 : 0);
        changesNothing("critical(256)", x -> x.critical(256) ? 1 : 0);
        changesNothing("odd(-1)", x -> x.odd(-1));
        changesNothing("odd(256)", x -> x.odd(256));
    }

    /** "POINTS are 0 to 7": the first and the last are points everywhere. */
    private static void termsPointsAre0To7() {
        PairingParts x = new PairingParts();
        due("line(0, 7)", x.line(0, 7), 1);
        due("partner(0)", x.partner(0), 7);
        due("partner(7)", x.partner(7), 0);
        due("can(0, 7)", x.can(0, 7), true);
        due("can(7, 0)", x.can(7, 0), true);
        due("must(0, 7)", x.must(0, 7), true);
        due("must(7, 0)", x.must(7, 0), true);
        due("loose() without 0 and 7", x.loose(), set("123456"));
        due("fast() with 0 and 7", x.fast(), set("07"));
        due("lines(7, 0 and 6)", x.lines(7, set("06")), set("0"));
        due("lines(0, 7)", x.lines(0, set("7")), set("7"));
        due("beside() with 7", x.beside(), set("7"));
    }

    /** "A PAIRING is a set of lines, also none": where no line can be taken, the pairing of none is the greatest. */
    private static void termsAPairingMayHaveNoLine() {
        PairingParts x = with("01 23");
        due("mostIn(points without a line between them)", x.mostIn(set("024567")), 0);
        due("most() of a new object", new PairingParts().most(), 0);
        // The one greatest pairing is that of none: it leaves every point out.
        due("loose() of a new object", new PairingParts().loose(), 255);
        // With no point left in the rest, the pairing of none is full in it.
        due("critical(only 5), without a line", x.critical(set("5")), true);
    }

    /** "no two have a point in common" */
    private static void termsNoTwoLinesOfAPairingMeet() {
        due("most() of two lines that meet", with("34 45").most(), 1);
        due("most() of two lines that do not", with("34 56").most(), 2);
        due("most() of a star of seven lines", with("07 17 27 37 47 57 67").most(), 1);
    }

    /** "A pairing WITHIN a set of points has only lines of which both points are in the set" */
    private static void termsWithinASetBothPointsAreInIt() {
        PairingParts x = with("01 12 23");
        due("mostIn(0)", x.mostIn(set("0")), 0);
        due("mostIn(0 and 2)", x.mostIn(set("02")), 0);
        due("mostIn(0, 2 and 3)", x.mostIn(set("023")), 1);
        // Full in 0 and 2 would be the pairing 01 23, were it within them.
        due("critical(0, 2 and 3)", x.critical(set("023")), false);
        due("critical(0, 1 and 2)", x.critical(set("012")), false);
        due("critical(0, 2 and 4), each with a line to a point outside", with("01 23 45").critical(set("024")), false);
    }

    /** "where a lesser partner comes first" */
    private static void termsALesserPartnerComesFirst() {
        duePartners("01 02 03", 1, 0, NONE, NONE, NONE, NONE, NONE, NONE);
        duePartners("07 06", 6, NONE, NONE, NONE, NONE, NONE, 0, NONE);
        // Point 0 is looked at before point 1, though point 1 could have a lesser partner otherwise.
        duePartners("02 03 12 13", 2, 3, 0, 1, NONE, NONE, NONE, NONE);
        duePartners("56 57 67 45", NONE, NONE, NONE, NONE, 5, 4, 7, 6);
        // The first of the greatest pairings, not the first of all.
        duePartners("01 02 13", 2, 3, 0, 1, NONE, NONE, NONE, NONE);
    }

    /** "and being left out comes last" */
    private static void termsBeingLeftOutComesLast() {
        duePartners("01 12", 1, 0, NONE, NONE, NONE, NONE, NONE, NONE);
        duePartners("07 17", 7, NONE, NONE, NONE, NONE, NONE, NONE, 0);
        duePartners("01 12 02", 1, 0, NONE, NONE, NONE, NONE, NONE, NONE);
        duePartners("06 15 16 25", 6, 5, NONE, NONE, NONE, 1, 0, NONE);
        duePartners("01 12 23 34", 1, 0, 3, 2, NONE, NONE, NONE, NONE);
    }

    /** "LOOSE .. BESIDE are those not loose that have a line to a loose one; FAST are the others." */
    private static void termsEachPointIsOfOnePart() {
        for (String figure : FIGURES) {
            PairingParts x = with(figure);
            int sum = x.loose() + x.beside() + x.fast();
            int all = x.loose() | x.beside() | x.fast();
            due("lines " + figure + ": the parts added up", sum, 255);
            due("lines " + figure + ": the parts put together", all, 255);
        }
        PairingParts ring = with("01 12 23 34 04");
        due("beside(), where loose ones have lines to loose ones", ring.beside(), 0);
        PairingParts tail = with("03 13 23 34 45");
        due("fast(), where one has a line to one beside", tail.fast(), set("45"));
    }

    /** "An object is used for at most 512 calls after it has been made": the 512th answers rightly. */
    private static void termsThe512thCallStillAnswers() {
        PairingParts x = new PairingParts();
        for (int n = 1; n <= 510; n++) {
            due("call " + n + ", line(2, 5)", x.line(2, 5), n % 2);
        }
        due("call 511, line(5, 2)", x.line(5, 2), 1);
        due("call 512, partner(5)", x.partner(5), 2);
    }

    // ---- Promise 1 ----

    /** "No line." */
    private static void promise1NoLine() {
        for (int p = 0; p < 8; p++) {
            due("new: lines(" + p + ", none)", new PairingParts().lines(p, 0), 0);
            due("new: lines(" + p + ", all)", new PairingParts().lines(p, 255), 0);
            for (int q = 0; q < 8; q++) {
                if (p != q) {
                    due("new: line(" + p + ", " + q + ")", new PairingParts().line(p, q), 1);
                }
            }
        }
        answersWithNoLine("new", () -> new PairingParts());
    }

    /** "No line.", also when objects made before have all lines. */
    private static void promise1AnObjectHasNoLineOfAnother() {
        PairingParts first = new PairingParts();
        PairingParts full = everyLineByLines();
        due("most() of an object made before the lines of another", first.most(), 0);
        due("loose() of an object made before the lines of another", first.loose(), 255);
        answersWithNoLine("made after the lines of another", () -> new PairingParts());
        due("most() of the other", full.most(), 4);
    }

    private static void answersWithNoLine(String when, Supplier<PairingParts> make) {
        PairingParts x = make.get();
        due(when + ": most()", x.most(), 0);
        due(when + ": loose()", x.loose(), 255);
        due(when + ": beside()", x.beside(), 0);
        due(when + ": fast()", x.fast(), 0);
        due(when + ": bound()", x.bound(), 0);
        due(when + ": missing()", x.missing(), 4);
        for (int p = 0; p < 8; p++) {
            due(when + ": partner(" + p + ")", x.partner(p), NONE);
            for (int q = 0; q < 8; q++) {
                due(when + ": can(" + p + ", " + q + ")", x.can(p, q), false);
                due(when + ": must(" + p + ", " + q + ")", x.must(p, q), false);
            }
        }
        PairingParts y = make.get();
        PairingParts z = make.get();
        for (int set = 0; set < 256; set++) {
            int size = Integer.bitCount(set);
            due(when + ": mostIn(" + set + ")", x.mostIn(set), 0);
            due(when + ": critical(" + set + ")", y.critical(set), size == 1);
            due(when + ": odd(" + set + ")", z.odd(set), 8 - size);
        }
    }

    // ---- Promise 2 ----

    /** "Puts a line between p and q in, if there is none, else takes it out. .. 1 if there is one now, else 0." */
    private static void promise2LineThereAndBack() {
        for (int p = 0; p < 8; p++) {
            for (int q = 0; q < 8; q++) {
                if (p != q) {
                    String call = "line(" + p + ", " + q + ")";
                    PairingParts x = new PairingParts();
                    due(call, x.line(p, q), 1);
                    due(call + ", most()", x.most(), 1);
                    due(call + " turned round", x.line(q, p), 0);
                    due(call + " turned round, most()", x.most(), 0);
                    due(call + " the third time", x.line(p, q), 1);
                    due(call + ", the points of p", x.lines(p, 0), 1 << q);
                    due(call + " taken out by lines, put in again", x.line(p, q), 1);
                }
            }
        }
    }

    /** "BAD_ARG if p or q is not 0 to 7" */
    private static void promise2NoSuchPoints() {
        for (String figure : FIGURES) {
            for (int bad : NO_POINTS) {
                PairingParts x = with(figure);
                for (int p = 0; p < 8; p++) {
                    due("line(" + bad + ", " + p + ")", x.line(bad, p), BAD_ARG);
                    due("line(" + p + ", " + bad + ")", x.line(p, bad), BAD_ARG);
                }
                for (int other : NO_POINTS) {
                    due("line(" + bad + ", " + other + ")", x.line(bad, other), BAD_ARG);
                }
            }
        }
    }

    /** "BAD_ARG if .. they are the same" */
    private static void promise2TheSamePoint() {
        for (int p = 0; p < 8; p++) {
            due("new: line(" + p + ", " + p + ")", new PairingParts().line(p, p), BAD_ARG);
            due("every line: line(" + p + ", " + p + ")", everyLineByLine().line(p, p), BAD_ARG);
        }
    }

    /** "A refused call .. changes nothing." */
    private static void promise2ARefusedLineChangesNothing() {
        for (int bad : NO_POINTS) {
            changesNothing("line(" + bad + ", 2)", x -> x.line(bad, 2));
            changesNothing("line(5, " + bad + ")", x -> x.line(5, bad));
        }
        for (int p = 0; p < 8; p++) {
            int same = p;
            changesNothing("line(" + p + ", " + p + ")", x -> x.line(same, same));
        }
    }

    // ---- Promise 3 ----

    /** "Point p gets lines to exactly the other points of the set": those not in it lose theirs, on both sides. */
    private static void promise3ExactlyThePointsOfTheSet() {
        for (int p = 0; p < 8; p++) {
            int itself = 1 << p;
            for (int set = 0; set < 256; set++) {
                PairingParts full = everyLineByLine();
                PairingParts bare = new PairingParts();
                due("every line: lines(" + p + ", " + set + ")", full.lines(p, set), 255 - itself);
                due("no line: lines(" + p + ", " + set + ")", bare.lines(p, set), 0);
                for (int q = 0; q < 8; q++) {
                    String then = "lines(" + p + ", " + set + "), then the points of " + q;
                    int toP = (set >> q & 1) != 0 ? itself : 0;
                    due("every line: " + then, near(full, q), q == p ? set & ~itself : 255 - (1 << q) - itself + toP);
                    due("no line: " + then, near(bare, q), q == p ? set & ~itself : toP);
                }
            }
        }
    }

    /** "(p itself in it does not matter)" */
    private static void promise3PItselfDoesNotMatter() {
        for (int p = 0; p < 8; p++) {
            int itself = 1 << p;
            due("new: lines(" + p + ", itself)", new PairingParts().lines(p, itself), 0);
            PairingParts alone = new PairingParts();
            alone.lines(p, itself);
            due("lines(" + p + ", itself), then its points", alone.lines(p, 0), 0);
            due("lines(" + p + ", itself), then most()", alone.most(), 0);
            PairingParts full = everyLineByLine();
            due("every line: lines(" + p + ", itself)", full.lines(p, itself), 255 - itself);
            due("every line, lines(" + p + ", itself), most()", full.most(), 3);
            due("every line, lines(" + p + ", itself), loose()", full.loose(), 255);
            for (int set = 0; set < 256; set += 5) {
                sameAfterLines(p, set & ~itself, set | itself);
            }
        }
    }

    private static void sameAfterLines(int p, int without, int with) {
        PairingParts x = with("01 12 02 23 34 45 56");
        PairingParts y = with("01 12 02 23 34 45 56");
        due("lines(" + p + ", " + with + ")", x.lines(p, with), y.lines(p, without));
        sameLinesAndPairings("after lines(" + p + ", " + with + ")", x, y);
    }

    /** "BAD_ARG if p is not 0 to 7" */
    private static void promise3NoSuchPoint() {
        int[] sets = {0, 1, 3, 128, 254, 255};
        for (int bad : NO_POINTS) {
            PairingParts x = with("01 12 02 23 34 45");
            for (int set : sets) {
                due("lines(" + bad + ", " + set + ")", x.lines(bad, set), BAD_ARG);
            }
            for (int set : NO_SETS) {
                due("lines(" + bad + ", " + set + ")", x.lines(bad, set), BAD_ARG);
            }
        }
    }

    /** "BAD_ARG if .. set not 0 to 255" */
    private static void promise3NoSuchSet() {
        for (int bad : NO_SETS) {
            PairingParts x = with("01 12 02 23 34 45");
            for (int p = 0; p < 8; p++) {
                due("lines(" + p + ", " + bad + ")", x.lines(p, bad), BAD_ARG);
            }
        }
    }

    /** "set not 0 to 255": the empty set and the set of all points are sets. */
    private static void promise3NoneAndAll() {
        for (int p = 0; p < 8; p++) {
            int others = 255 - (1 << p);
            PairingParts x = new PairingParts();
            due("lines(" + p + ", none) of a point without lines", x.lines(p, 0), 0);
            due("lines(" + p + ", all)", x.lines(p, 255), 0);
            due("then most()", x.most(), 1);
            due("lines(" + p + ", all) once more", x.lines(p, 255), others);
            due("then loose()", x.loose(), others);
            due("then beside()", x.beside(), 1 << p);
            due("lines(" + p + ", none)", x.lines(p, 0), others);
            due("then most() without a line", x.most(), 0);
            due("lines(" + p + ", none) once more", x.lines(p, 0), 0);
        }
    }

    /** "A refused call .. changes nothing." */
    private static void promise3ARefusedLinesChangesNothing() {
        for (int bad : NO_POINTS) {
            changesNothing("lines(" + bad + ", none)", x -> x.lines(bad, 0));
            changesNothing("lines(" + bad + ", all)", x -> x.lines(bad, 255));
        }
        for (int bad : NO_SETS) {
            changesNothing("lines(3, " + bad + ")", x -> x.lines(3, bad));
        }
        changesNothing("lines(8, 256)", x -> x.lines(8, 256));
    }

    // ---- Promises 4, 7, 8, 9, 14, 15: no line, and every line ----

    /** "The number of lines of a greatest pairing." */
    private static void promise4NoLineAndEveryLine() {
        dueWithNoLine("most()", x -> x.most(), 0);
        dueWithEveryLine("most()", x -> x.most(), 4);
    }

    /** "The set of the loose points." */
    private static void promise7NoLineAndEveryLine() {
        dueWithNoLine("loose()", x -> x.loose(), 255);
        dueWithEveryLine("loose()", x -> x.loose(), 0);
    }

    /** "The set of the points beside." */
    private static void promise8NoLineAndEveryLine() {
        dueWithNoLine("beside()", x -> x.beside(), 0);
        dueWithEveryLine("beside()", x -> x.beside(), 0);
    }

    /** "The set of the fast points." */
    private static void promise9NoLineAndEveryLine() {
        dueWithNoLine("fast()", x -> x.fast(), 0);
        dueWithEveryLine("fast()", x -> x.fast(), 255);
    }

    /** "The least number of the form 8 + size of S - odd(S), over all sets S of points, divided by 2" */
    private static void promise14NoLineAndEveryLine() {
        dueWithNoLine("bound()", x -> x.bound(), 0);
        dueWithEveryLine("bound()", x -> x.bound(), 4);
    }

    /** "over all sets S of points": each set of points is the least one somewhere, also the empty one. */
    private static void promise14OverAllSets() {
        for (int centres = 0; centres < 256; centres++) {
            PairingParts x = new PairingParts();
            int size = Integer.bitCount(centres);
            for (int p = 0; p < 8; p++) {
                if ((centres >> p & 1) != 0) {
                    x.lines(p, 255);
                }
            }
            due("bound() with all lines of " + centres, x.bound(), Math.min(4, size));
        }
        due("bound() of two odd parts", with("01 12 02 34 45 56 67 37 47").bound(), 3);
    }

    /** "How many lines there would have to be put in at least such that a pairing leaves out no point." */
    private static void promise15NoLineAndEveryLine() {
        dueWithNoLine("missing()", x -> x.missing(), 4);
        dueWithEveryLine("missing()", x -> x.missing(), 0);
    }

    /** The parts when one point has no line and the seven others have every line between them, and the other way. */
    private static void promises4To15OneFromTheEdge() {
        for (int p = 0; p < 8; p++) {
            PairingParts x = everyLineByLine();
            x.lines(p, 0);
            due("all but " + p + ": most()", x.most(), 3);
            due("all but " + p + ": loose()", x.loose(), 255);
            due("all but " + p + ": beside()", x.beside(), 0);
            due("all but " + p + ": fast()", x.fast(), 0);
            due("all but " + p + ": bound()", x.bound(), 3);
            due("all but " + p + ": missing()", x.missing(), 1);
            int q = (p + 3) % 8;
            PairingParts y = new PairingParts();
            y.line(p, q);
            int two = 1 << p | 1 << q;
            due("one line: most()", y.most(), 1);
            due("one line: loose()", y.loose(), 255 - two);
            due("one line: beside()", y.beside(), 0);
            due("one line: fast()", y.fast(), two);
            due("one line: bound()", y.bound(), 1);
            due("one line: missing()", y.missing(), 3);
        }
    }

    // ---- Promise 5 ----

    /** "BAD_ARG if set is not 0 to 255." */
    private static void promise5NoSuchSet() {
        for (String figure : FIGURES) {
            PairingParts x = with(figure);
            for (int bad : NO_SETS) {
                due("mostIn(" + bad + ")", x.mostIn(bad), BAD_ARG);
            }
        }
        for (int bad : NO_SETS) {
            due("every line: mostIn(" + bad + ")", everyLineByLine().mostIn(bad), BAD_ARG);
        }
    }

    /** "set is not 0 to 255": the empty set and the set of all points are sets. */
    private static void promise5NoneAndAll() {
        int[] mosts = {0, 1, 1, 4, 4, 3, 1, 2, 4, 2};
        for (int n = 0; n < FIGURES.length; n++) {
            PairingParts x = with(FIGURES[n]);
            due("lines " + FIGURES[n] + ": mostIn(none)", x.mostIn(0), 0);
            due("lines " + FIGURES[n] + ": mostIn(all)", x.mostIn(255), mosts[n]);
        }
        PairingParts full = everyLineByLine();
        for (int set = 0; set < 256; set++) {
            due("every line: mostIn(" + set + ")", full.mostIn(set), Integer.bitCount(set) / 2);
        }
    }

    // ---- Promise 6 ----

    private static void duePartners(String lines, int... want) {
        PairingParts x = with(lines);
        for (int p = 0; p < 8; p++) {
            due("lines " + lines + ": partner(" + p + ")", x.partner(p), want[p]);
        }
    }

    /** "NONE if it is left out by it" */
    private static void promise6LeftOut() {
        for (int p = 0; p < 8; p++) {
            due("new: partner(" + p + ")", new PairingParts().partner(p), NONE);
            PairingParts x = everyLineByLine();
            x.lines(p, 0);
            for (int q = 0; q < 8; q++) {
                // Of the seven others the greatest one is left out, the rest are paired in their order.
                int last = p == 7 ? 6 : 7;
                boolean out = q == p || q == last;
                due("all but " + p + ": partner(" + q + ") is NONE", x.partner(q) == NONE, out);
            }
        }
        duePartners("01 12 02 34 45 35", 1, 0, NONE, 4, 3, NONE, NONE, NONE);
        // 2 is left out by the first of the greatest pairings, though another one has it.
        duePartners("07 17 27", 7, NONE, NONE, NONE, NONE, NONE, NONE, 0);
    }

    /** "The partner of point p in the first of the greatest pairings": nobody is left out where every line is. */
    private static void promise6EveryLine() {
        PairingParts x = everyLineByLine();
        for (int p = 0; p < 8; p++) {
            due("every line: partner(" + p + ")", x.partner(p), p ^ 1);
        }
    }

    /** "BAD_ARG if p is not 0 to 7." */
    private static void promise6NoSuchPoint() {
        for (String figure : FIGURES) {
            PairingParts x = with(figure);
            for (int bad : NO_POINTS) {
                due("lines " + figure + ": partner(" + bad + ")", x.partner(bad), BAD_ARG);
            }
        }
        for (int bad : NO_POINTS) {
            due("every line: partner(" + bad + ")", everyLineByLine().partner(bad), BAD_ARG);
        }
    }

    // ---- Promises 10 and 11 ----

    /** can: "false if there is none" */
    private static void promise10NoLine() {
        PairingParts x = with("01 23");
        for (int p = 0; p < 8; p++) {
            for (int q = 0; q < 8; q++) {
                boolean there = p < 4 && q == (p ^ 1);
                due("lines 01 23: can(" + p + ", " + q + ")", x.can(p, q), there);
            }
        }
        PairingParts y = with("01");
        y.line(0, 1);
        due("can(0, 1) after the line was taken out", y.can(0, 1), false);
        PairingParts z = everyLineByLine();
        z.line(3, 6);
        due("can(3, 6), every line but that one", z.can(3, 6), false);
        due("can(6, 3), every line but that one", z.can(6, 3), false);
    }

    /** can: "false if there is .. no such points" */
    private static void promise10NoSuchPoints() {
        String[] figures = {"", "07 16 25 34", "01 12 02 23 34 45"};
        for (int bad : NO_POINTS) {
            for (String figure : figures) {
                PairingParts x = with(figure);
                for (int p = 0; p < 8; p++) {
                    due("lines " + figure + ": can(" + bad + ", " + p + ")", x.can(bad, p), false);
                    due("lines " + figure + ": can(" + p + ", " + bad + ")", x.can(p, bad), false);
                }
                due("lines " + figure + ": can(" + bad + ", " + bad + ")", x.can(bad, bad), false);
            }
        }
    }

    /** can, and two points that are the same: there is no line between them, whatever other lines there are. */
    private static void promise10TheSamePoint() {
        for (int p = 0; p < 8; p++) {
            due("every line: can(" + p + ", " + p + ")", everyLineByLine().can(p, p), false);
            PairingParts x = new PairingParts();
            x.lines(p, 255);
            due("can(" + p + ", " + p + ") after lines(" + p + ", all)", x.can(p, p), false);
        }
    }

    /** "Whether some greatest pairing has the line": each one can, where every line is. */
    private static void promise10EveryLine() {
        PairingParts x = everyLineByLine();
        for (int p = 0; p < 8; p++) {
            for (int q = 0; q < 8; q++) {
                due("every line: can(" + p + ", " + q + ")", x.can(p, q), p != q);
            }
        }
    }

    /** must: "false if there is none" */
    private static void promise11NoLine() {
        PairingParts x = with("01 23");
        for (int p = 0; p < 8; p++) {
            for (int q = 0; q < 8; q++) {
                boolean there = p < 4 && q == (p ^ 1);
                due("lines 01 23: must(" + p + ", " + q + ")", x.must(p, q), there);
            }
        }
        PairingParts y = with("01");
        y.line(0, 1);
        due("must(0, 1) after the line was taken out", y.must(0, 1), false);
        // 4 and 5 are in every greatest pairing, each with another partner.
        due("must(4, 5) of two fast points without a line", with("04 15").must(4, 5), false);
    }

    /** must: "false if there is .. no such points" */
    private static void promise11NoSuchPoints() {
        String[] figures = {"", "07 16 25 34", "01 12 02 23 34 45"};
        for (int bad : NO_POINTS) {
            for (String figure : figures) {
                PairingParts x = with(figure);
                for (int p = 0; p < 8; p++) {
                    due("lines " + figure + ": must(" + bad + ", " + p + ")", x.must(bad, p), false);
                    due("lines " + figure + ": must(" + p + ", " + bad + ")", x.must(p, bad), false);
                }
                due("lines " + figure + ": must(" + bad + ", " + bad + ")", x.must(bad, bad), false);
            }
        }
    }

    /** must, and two points that are the same. */
    private static void promise11TheSamePoint() {
        PairingParts four = with("07 16 25 34");
        for (int p = 0; p < 8; p++) {
            due("new: must(" + p + ", " + p + ")", new PairingParts().must(p, p), false);
            due("four lines: must(" + p + ", " + p + ")", four.must(p, p), false);
        }
    }

    /** "Whether all greatest pairings have the line": none must, where every line is; each, where there are only four. */
    private static void promise11EveryLineAndOnlyFour() {
        PairingParts full = everyLineByLine();
        PairingParts four = with("07 16 25 34");
        for (int p = 0; p < 8; p++) {
            for (int q = 0; q < 8; q++) {
                due("every line: must(" + p + ", " + q + ")", full.must(p, q), false);
                due("four lines: must(" + p + ", " + q + ")", four.must(p, q), p + q == 7);
            }
        }
    }

    // ---- Promise 12 ----

    /** "false if set is not 0 to 255." */
    private static void promise12NoSuchSet() {
        for (String figure : FIGURES) {
            PairingParts x = with(figure);
            for (int bad : NO_SETS) {
                due("lines " + figure + ": critical(" + bad + ")", x.critical(bad), false);
            }
        }
        for (int bad : NO_SETS) {
            due("every line: critical(" + bad + ")", everyLineByLine().critical(bad), false);
        }
    }

    /** "Whether the set has an odd number of points": the empty set has not. */
    private static void promise12NoPoint() {
        for (String figure : FIGURES) {
            due("lines " + figure + ": critical(none)", with(figure).critical(0), false);
        }
        due("every line: critical(none)", everyLineByLine().critical(0), false);
    }

    /** "a pairing that is full in the rest of it": of one point the rest is empty, and the pairing of none is full in it. */
    private static void promise12OnePoint() {
        for (int p = 0; p < 8; p++) {
            for (String figure : FIGURES) {
                due("lines " + figure + ": critical(only " + p + ")", with(figure).critical(1 << p), true);
            }
            due("every line: critical(only " + p + ")", everyLineByLine().critical(1 << p), true);
        }
    }

    /** "Whether the set has an odd number of points": with every line there is, that alone decides. */
    private static void promise12EvenAndOddNumbers() {
        PairingParts full = everyLineByLine();
        PairingParts none = new PairingParts();
        for (int set = 0; set < 256; set++) {
            int size = Integer.bitCount(set);
            due("every line: critical(" + set + ")", full.critical(set), size % 2 == 1);
            due("no line: critical(" + set + ")", none.critical(set), size == 1);
        }
    }

    /** "whichever of its points is taken out of it": one point that cannot be spared is enough, be it first or last. */
    private static void promise12WhicheverPoint() {
        due("critical(0 to 2), 0 cannot be spared", with("01 02").critical(set("012")), false);
        due("critical(0 to 2), 1 cannot be spared", with("01 12").critical(set("012")), false);
        due("critical(0 to 2), 2 cannot be spared", with("02 12").critical(set("012")), false);
        due("critical(5 to 7), 7 cannot be spared", with("57 67").critical(set("567")), false);
        due("critical(5 to 7), all can be spared", with("57 67 56").critical(set("567")), true);
        due("critical(seven in a ring)", with("01 12 23 34 45 56 06").critical(set("0123456")), true);
        due("critical(seven in a row)", with("01 12 23 34 45 56").critical(set("0123456")), false);
        due("critical(two parts, three and two)", with("01 12 02 34").critical(set("01234")), false);
    }

    // ---- Promise 13 ----

    /** "BAD_ARG if set is not 0 to 255." */
    private static void promise13NoSuchSet() {
        for (String figure : FIGURES) {
            PairingParts x = with(figure);
            for (int bad : NO_SETS) {
                due("lines " + figure + ": odd(" + bad + ")", x.odd(bad), BAD_ARG);
            }
        }
        for (int bad : NO_SETS) {
            due("every line: odd(" + bad + ")", everyLineByLine().odd(bad), BAD_ARG);
        }
    }

    /** "when the points of the set are taken away": nothing taken away. */
    private static void promise13NothingTakenAway() {
        int[] odds = {8, 6, 6, 0, 0, 2, 0, 2, 0, 4};
        for (int n = 0; n < FIGURES.length; n++) {
            due("lines " + FIGURES[n] + ": odd(none)", with(FIGURES[n]).odd(0), odds[n]);
        }
        due("every line: odd(none)", everyLineByLine().odd(0), 0);
    }

    /** "when the points of the set are taken away": all points taken away. */
    private static void promise13AllTakenAway() {
        for (String figure : FIGURES) {
            due("lines " + figure + ": odd(all)", with(figure).odd(255), 0);
        }
        due("every line: odd(all)", everyLineByLine().odd(255), 0);
    }

    /** "when the points of the set are taken away": all but one, which is an odd part on its own. */
    private static void promise13AllButOneTakenAway() {
        for (int p = 0; p < 8; p++) {
            due("new: odd(all but " + p + ")", new PairingParts().odd(255 - (1 << p)), 1);
            due("every line: odd(all but " + p + ")", everyLineByLine().odd(255 - (1 << p)), 1);
        }
    }

    /** "(connected by lines between points that stay)" */
    private static void promise13ConnectedThroughPointsThatStay() {
        PairingParts star = with("07 17 27 37 47 57 67");
        due("star: odd(its centre)", star.odd(set("7")), 7);
        due("star: odd(one of its ends)", star.odd(set("0")), 1);
        PairingParts full = everyLineByLine();
        for (int set = 0; set < 256; set++) {
            due("every line: odd(" + set + ")", full.odd(set), Integer.bitCount(set) % 2);
        }
        // The longest ways there are, up, down and to and fro.
        due("odd(none), a way up", with("01 12 23 34 45 56").odd(0), 2);
        due("odd(none), a way to and fro", with("17 72 26 63 35 54").odd(0), 2);
        due("odd(none), a way through all", with("07 71 16 62 25 53 34").odd(0), 0);
    }

    public static void main(String[] args) {
        termsNoCallThrows();
        termsARefusedQuestionChangesNothing();
        termsPointsAre0To7();
        termsAPairingMayHaveNoLine();
        termsNoTwoLinesOfAPairingMeet();
        termsWithinASetBothPointsAreInIt();
        termsALesserPartnerComesFirst();
        termsBeingLeftOutComesLast();
        termsEachPointIsOfOnePart();
        termsThe512thCallStillAnswers();
        promise1NoLine();
        promise1AnObjectHasNoLineOfAnother();
        promise2LineThereAndBack();
        promise2NoSuchPoints();
        promise2TheSamePoint();
        promise2ARefusedLineChangesNothing();
        promise3ExactlyThePointsOfTheSet();
        promise3PItselfDoesNotMatter();
        promise3NoSuchPoint();
        promise3NoSuchSet();
        promise3NoneAndAll();
        promise3ARefusedLinesChangesNothing();
        promise4NoLineAndEveryLine();
        promise5NoSuchSet();
        promise5NoneAndAll();
        promise6LeftOut();
        promise6EveryLine();
        promise6NoSuchPoint();
        promise7NoLineAndEveryLine();
        promise8NoLineAndEveryLine();
        promise9NoLineAndEveryLine();
        promise10NoLine();
        promise10NoSuchPoints();
        promise10TheSamePoint();
        promise10EveryLine();
        promise11NoLine();
        promise11NoSuchPoints();
        promise11TheSamePoint();
        promise11EveryLineAndOnlyFour();
        promise12NoSuchSet();
        promise12NoPoint();
        promise12OnePoint();
        promise12EvenAndOddNumbers();
        promise12WhicheverPoint();
        promise13NoSuchSet();
        promise13NothingTakenAway();
        promise13AllTakenAway();
        promise13AllButOneTakenAway();
        promise13ConnectedThroughPointsThatStay();
        promise14NoLineAndEveryLine();
        promise14OverAllSets();
        promise15NoLineAndEveryLine();
        promises4To15OneFromTheEdge();
        System.out.println(wrong == 0 ? "all boundary cases hold" : wrong + " answers are not as due");
        if (wrong != 0) {
            System.exit(1);
        }
    }
}
