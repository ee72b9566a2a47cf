/** The boundary cases of promises 17 to 21, each with the sentence that names it. */
public final class Edges4HeardTest {
    private static final Due due = new Due("Edges4HeardTest");
    private static final int MIN = Integer.MIN_VALUE, MAX = Integer.MAX_VALUE;
    private static final int UNKNOWN = PitchRows.UNKNOWN, OUTSIDE = PitchRows.OUTSIDE, FULL = PitchRows.FULL;
    private static final long LOST = PitchRows.LOST;

    public static void main(String[] args) {
        Edges.run(Edges4HeardTest.class, due);
    }

    // ---- promise 17

    @Says({"READINGS, 8 at most, numbered by how many there are:", "A READING: its number.", "FULL."})
    static void p17_theEighthAndTheNinthReading() {
        PitchRows x = Due.with("c2;p01");
        for (int m = 0; m < 7; m++) {
            due.is("reading " + m, x.reading(0, 0, 0, 0, 2), m);
        }
        due.is("kinds(0) by seven", x.kinds(0), 3);
        due.is("the eighth", x.reading(0, 0, 0, 0, 4), 7);
        due.is("kinds(0) by eight", x.kinds(0), 0);
        due.is("the ninth", x.reading(0, 0, 0, 0, 2), FULL);
        due.is("many(4)", x.many(4), 8);
        due.is("the ninth, v outside", x.reading(0, 0, 0, 0, 21), OUTSIDE);
        due.is("the ninth, of no caller", x.reading(0, 1, 0, 0, 2), UNKNOWN);
        x.back(1);
        due.is("kinds(0) by seven", x.kinds(0), 3);
        due.is("the eighth once more", x.reading(0, 0, 0, 0, 2), 7);
        due.is("kinds(0) by eight", x.kinds(0), 3);
    }

    @Says("what a CALLER HEARS of a CALL by a SHIFT.")
    static void p17_whoOfWhomByWhichShift() {
        PitchRows x = Due.with("c3;p0--;p--2;b1--");
        x.reading(0, 1, -2, -2, 1);
        due.is("0 of 1, late -2, high -2", x.kinds(0), 7 - 4);
        x.back(1);
        x.reading(1, 0, -2, -2, 1);
        due.is("1 of 0 does not fit so", x.kinds(1), 0);
        x.back(1);
        x.reading(0, 1, -2, 2, 1);
        due.is("nor by high 2", x.kinds(0), 0);
        x.back(1);
        x.reading(0, 1, 2, -2, 1);
        due.is("nor by late 2", x.kinds(0), 0);
    }

    @Says("v (0 .. 20)")
    static void p17_v() {
        PitchRows x = Due.with("c6;k012345");
        due.is("v 0", x.reading(0, 0, 5, -5, 0), 0);
        due.is("kinds(0)", x.kinds(0), 7);
        due.is("v 20", x.reading(0, 0, 0, 0, 20), 1);
        due.is("kinds(0)", x.kinds(0), 0);
        for (int v : new int[] {-1, 21, MIN, MAX}) {
            due.is("v " + v, x.reading(0, 0, 0, 0, v), OUTSIDE);
        }
        due.is("many(4)", x.many(4), 2);
    }

    @Says("UNKNOWN: either CALLER; OUTSIDE: late, high (-5 .. 5), v (0 .. 20); FULL.")
    static void p17_lateAndHigh() {
        PitchRows x = Due.with("c6;p0----5;p5----0");
        due.is("late 5, high 5", x.reading(0, 0, 5, 5, 1), 0);
        due.is("late -5, high -5", x.reading(0, 0, -5, -5, 1), 1);
        due.is("late 5, high -5", x.reading(1, 1, 5, -5, 1), 2);
        due.is("late -5, high 5", x.reading(1, 1, -5, 5, 1), 3);
        due.is("kinds(0)", x.kinds(0), 3);
        due.is("kinds(1)", x.kinds(1), 3);
        for (int far : new int[] {-6, 6, MIN, MAX}) {
            due.is("late " + far, x.reading(0, 0, far, 0, 1), OUTSIDE);
            due.is("high " + far, x.reading(0, 0, 0, far, 1), OUTSIDE);
            due.is("late " + far + ", no such caller", x.reading(2, 0, far, 0, 1), UNKNOWN);
            due.is("high " + far + ", of no such caller", x.reading(0, 2, 0, far, 1), UNKNOWN);
            due.is("v outside, caller " + far, x.reading(far, 0, 0, 0, 21), UNKNOWN);
            due.is("v outside, of caller " + far, x.reading(0, far, 0, 0, 21), UNKNOWN);
        }
        due.is("many(4)", x.many(4), 4);
        due.is("without callers", new PitchRows().reading(0, 0, 0, 0, 0), UNKNOWN);
    }

    // ---- promise 18

    @Says("The last m READINGS (0 .. as many as there are) are taken back: how many are left. OUTSIDE.")
    static void p18_howManyAreTakenBack() {
        for (int read = 0; read <= 8; read++) {
            for (int m = -1; m <= read + 1; m++) {
                PitchRows x = Due.with("c2;p01");
                for (int r = 0; r < read; r++) {
                    // the first two leave plain and broad, the third leaves none
                    x.reading(0, 0, 0, 0, r < 2 ? 2 : 3);
                }
                boolean isSo = m >= 0 && m <= read;
                int left = isSo ? read - m : read;
                due.is("back(" + m + ") of " + read, x.back(m), isSo ? left : OUTSIDE);
                due.is("many(4)", x.many(4), left);
                due.is("kinds(0) by " + left, x.kinds(0), left == 0 ? 7 : left <= 2 ? 3 : 0);
            }
        }
    }

    @Says("0 .. as many as there are")
    static void p18_withoutCallers() {
        PitchRows x = new PitchRows();
        due.is("back(0)", x.back(0), 0);
        for (int m : new int[] {-1, 1, 8, MIN, MAX}) {
            due.is("back(" + m + ")", x.back(m), OUTSIDE);
        }
    }

    // ---- promise 19

    @Says({"All that follows: in place of what it is alone, by which all READINGS are so:", "KINDS of a CALLER: 0 .. 2;",
        "KINDS, as a set."})
    static void p19_noReadingsAndAllOfThem() {
        PitchRows x = Due.with("c3;b012;p111");
        due.is("no readings", x.kinds(0), 7);
        x.reading(0, 1, 0, 0, 3);
        due.is("broad hears three", x.kinds(0), 2);
        due.is("0 is broad, whatever 1 is", x.kinds(1), 7);
        x.reading(1, 0, 0, 0, 1);
        due.is("1 is plain", x.kinds(1), 1);
        due.is("0 is broad still", x.kinds(0), 2);
        x.reading(0, 0, 0, 0, 3);
        due.is("all three are so", x.kinds(0), 2);
        x.reading(0, 1, 0, 0, 4);
        due.is("the empty set", x.kinds(0), 0);
        due.is("the other's, too", x.kinds(1), 0);
        due.is("its kind is as it was", x.ofCaller(0, 0), 1);
    }

    @Says("as sets.")
    static void p19_eachKindAlone() {
        // two the same, one beside: plain 2, broad 3, keen 5
        int[] want = {0, 0, 1, 2, 0, 4, 0};
        for (String kind : new String[] {"p", "b", "k"}) {
            PitchRows x = Due.with("c3;" + kind + "012;p112");
            for (int v = 0; v < want.length; v++) {
                x.reading(0, 1, 0, 0, v);
                due.is(kind + " by " + v, x.kinds(0), want[v]);
                x.back(1);
            }
        }
    }

    @Says("UNKNOWN.")
    static void p19_unknown() {
        PitchRows x = Due.with("c2;p01");
        for (int k : new int[] {-1, 1, 4, MIN, MAX}) {
            due.is("kinds(" + k + ")", x.kinds(k), UNKNOWN);
        }
        due.is("without callers", new PitchRows().kinds(0), UNKNOWN);
    }

    // ---- promise 20

    @Says({"PITCHES of a BEAT of a CALL: 0 .. n less 1;", "PITCHES, as a set."})
    static void p20_noReadings() {
        for (int n = 2; n <= 6; n++) {
            PitchRows x = Due.with(("c" + n + ";p------").substring(0, 4 + n));
            due.is("the first beat of " + n, x.pitches(0, 0), (1 << n) - 1);
            due.is("the last beat of " + n, x.pitches(0, n - 1), (1 << n) - 1);
            due.is("one behind it", x.pitches(0, n), UNKNOWN);
        }
    }

    @Says("in place of what it is alone, by which all READINGS are so:")
    static void p20_leastAndMostPitchAndNone() {
        PitchRows x = Due.with("c6;p-----3;p0----5;b------");
        x.reading(1, 0, 0, 0, 1);
        due.is("0 in beat 0", x.pitches(0, 0), 1);
        due.is("5 in beat 5", x.pitches(0, 5), 32);
        due.is("in beat 1 it helps nothing", x.pitches(0, 1), 0);
        due.is("the hearer's beat 5 is 3", x.pitches(1, 5), 8);
        due.is("as it was", x.ofCaller(0, 10), PitchRows.NONE);
        due.is("as it was", x.ofCaller(0, 15), 3);
        x.reading(1, 0, 0, 0, 0);
        due.is("the empty set", x.pitches(0, 0), 0);
        x.back(2);
        x.reading(2, 0, 0, 0, 0);
        due.is("broad hears nothing: not beside 3", x.pitches(2, 5), 1 + 2 + 32);
    }

    @Says("by which all READINGS are so")
    static void p20_ofItsOwnCall() {
        PitchRows x = Due.with("c3;p01-");
        // beat 2 one high behind beat 1, and two late
        x.reading(0, 0, 1, 1, 2);
        due.is("it goes on", x.pitches(0, 2), 4);
        x.reading(0, 0, 2, 2, 1);
        due.is("it does so by two late", x.pitches(0, 2), 4);
        due.is("beat 1 without beat 2", x.pitches(0, 1), 0);
    }

    @Says("UNKNOWN: CALLER, beat.")
    static void p20_unknown() {
        PitchRows x = Due.with("c2;p01");
        for (int far : new int[] {-1, 2, 6, MIN, MAX}) {
            due.is("beat " + far, x.pitches(0, far), UNKNOWN);
            due.is("caller " + far, x.pitches(far, 0), UNKNOWN);
        }
        due.is("without callers", new PitchRows().pitches(0, 0), UNKNOWN);
    }

    // ---- promise 21

    private static void share(String text, int v, int upper, int lower) {
        PitchRows x = Due.with(text);
        due.is(text + " upper of " + v, x.odds(0, v, 0), upper);
        due.is(text + " lower of " + v, x.odds(0, v, 1), lower);
    }

    @Says({"ODDS of v: of all SHIFTS but 0, 0 (-5 .. 5 each), all alike, the share of those by which a CALLER HEARS v or more"
            + " of its own CALL."})
    static void p21_oddsOf0() {
        share("c2;p01", 0, 1, 1);
        share("c2;p--", 0, 1, 1);
        share("c6;k012345", 0, 1, 1);
    }

    @Says("the share of those by which a CALLER HEARS v or more")
    static void p21_heardByNoShift() {
        share("c2;p--", 1, 0, 1);
        // by 0, 0 alone
        share("c2;p01", 2, 0, 1);
        share("c6;p012345", 6, 0, 1);
        share("c6;k012345", 11, 0, 1);
        share("c6;k012345", 20, 0, 1);
    }

    @Says("of all SHIFTS but 0, 0 (-5 .. 5 each)")
    static void p21_vOrMore() {
        // as late as high: -5 .. 5 but 0; by each so many beats as are left
        share("c6;p012345", 1, 1, 12);
        share("c6;p012345", 2, 1, 15);
        share("c6;p012345", 5, 1, 60);
        // one shift each way
        share("c2;p01", 1, 1, 60);
        // every high by which two of 0 and 5 fit
        share("c6;p0----5", 1, 1, 60);
        // late -1: 3 highs, late 0: 2, late 1: 3
        share("c2;k01", 1, 1, 15);
    }

    @Says({"ODDS of v (0 .. 20; which 0 the upper, 1 the lower number).", "LOST: UNKNOWN; OUTSIDE."})
    static void p21_vAndWhich() {
        PitchRows x = Due.with("c2;p01");
        due.is("v 0", x.odds(0, 0, 0), 1);
        due.is("v 20, upper", x.odds(0, 20, 0), 0);
        due.is("v 20, lower", x.odds(0, 20, 1), 1);
        for (int far : new int[] {-1, 21, MIN, MAX}) {
            due.is("v " + far, x.odds(0, far, 0), LOST);
            due.is("which " + far, x.odds(0, 0, far), LOST);
            due.is("caller " + far, x.odds(far, 0, 0), LOST);
        }
        due.is("which 2", x.odds(0, 0, 2), LOST);
        due.is("caller 1", x.odds(1, 0, 0), LOST);
        due.is("without callers", new PitchRows().odds(0, 0, 0), LOST);
    }
}
