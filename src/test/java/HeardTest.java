/** Promises 17 to 21: reading, back, kinds, pitches, odds. */
public final class HeardTest {
    private static final Due due = new Due("HeardTest");

    public static void main(String[] args) {
        readings();
        takingBack();
        kindsByReadings();
        kindsByWhatOthersHeard();
        pitchesByReadings();
        askingChangesNothing();
        callsAsTheyAreNow();
        shares();
        refusals();
        due.end();
    }

    private static void readings() {
        PitchRows x = Due.with("c2;p01;b1-");
        due.is("reading(2, 0, 6, 6, 21)", x.reading(2, 0, 6, 6, 21), PitchRows.UNKNOWN);
        due.is("reading(0, 2, 6, 6, 21)", x.reading(0, 2, 6, 6, 21), PitchRows.UNKNOWN);
        due.is("reading(-1, 0, 0, 0, 0)", x.reading(-1, 0, 0, 0, 0), PitchRows.UNKNOWN);
        due.is("reading(0, -1, 0, 0, 0)", x.reading(0, -1, 0, 0, 0), PitchRows.UNKNOWN);
        int[][] outside = {{6, 0, 0}, {-6, 0, 0}, {0, 6, 0}, {0, -6, 0}, {0, 0, 21}, {0, 0, -1}};
        for (int[] o : outside) {
            due.is("reading(0, 0, " + o[0] + ", " + o[1] + ", " + o[2] + ")",
                    x.reading(0, 0, o[0], o[1], o[2]), PitchRows.OUTSIDE);
        }
        due.is("many(4)", x.many(4), 0);
        for (int m = 0; m < 8; m++) {
            due.is("reading " + m, x.reading(m % 2, 1, m == 7 ? -5 : 5, m == 6 ? -5 : 5, m == 5 ? 20 : 0), m);
            due.is("many(4)", x.many(4), m + 1);
        }
        due.is("a ninth", x.reading(0, 0, 0, 0, 0), PitchRows.FULL);
        due.is("a ninth, outside", x.reading(0, 0, 0, 0, 21), PitchRows.OUTSIDE);
        due.is("a ninth, unknown", x.reading(0, 2, 0, 0, 0), PitchRows.UNKNOWN);
        due.is("many(4)", x.many(4), 8);
    }

    private static void takingBack() {
        PitchRows x = new PitchRows();
        due.is("new back(0)", x.back(0), 0);
        due.is("new back(1)", x.back(1), PitchRows.OUTSIDE);
        x = Due.with("c2;p01");
        x.reading(0, 0, 0, 0, 2);
        x.reading(0, 0, 0, 0, 4);
        x.reading(0, 0, 0, 0, 3);
        due.is("back(-1)", x.back(-1), PitchRows.OUTSIDE);
        due.is("back(4)", x.back(4), PitchRows.OUTSIDE);
        due.is("back(0)", x.back(0), 3);
        due.is("kinds(0)", x.kinds(0), 0);
        due.is("back(2)", x.back(2), 1);
        due.is("kinds(0)", x.kinds(0), 1 + 2);
        due.is("the next number", x.reading(0, 0, 0, 0, 2), 1);
        due.is("back(2)", x.back(2), 0);
        due.is("kinds(0)", x.kinds(0), 7);
    }

    private static void kindsByReadings() {
        PitchRows x = Due.with("c3;p012;p112");
        // of caller 1's call: 0 and 1 are beside, 1 and 1, 2 and 2 the same
        int[] want = {0, 0, 1, 2, 0, 4, 0};
        for (int v = 0; v < want.length; v++) {
            x.reading(0, 1, 0, 0, v);
            due.is("kinds(0) by " + v, x.kinds(0), want[v]);
            due.is("kinds(1) by " + v, x.kinds(1), v == 2 ? 7 : 0);
            x.back(1);
        }
        x.reading(0, 0, 0, 0, 3);
        due.is("plain or broad", x.kinds(0), 1 + 2);
        x.reading(0, 1, 0, 0, 3);
        due.is("broad", x.kinds(0), 2);
        x.reading(0, 1, 0, 0, 5);
        due.is("none", x.kinds(0), 0);
    }

    private static void kindsByWhatOthersHeard() {
        PitchRows x = Due.with("c3;k012;p112");
        x.reading(1, 0, 0, 0, 2);
        due.is("1 hears 0 as it is", x.kinds(0), 7);
        due.is("1 is plain", x.kinds(1), 1);
        x.reading(1, 0, 0, 0, 9);
        due.is("1 can't hear this", x.kinds(0), 0);
    }

    private static void pitchesByReadings() {
        PitchRows x = Due.with("c4;p0-13;b2222");
        due.is("no readings", x.pitches(0, 1), 15);
        x.reading(1, 0, 0, 0, 3);
        // of 2: 0 none, 1 beside, 3 beside; the free one must be 1 .. 3
        due.is("broad hears three", x.pitches(0, 1), 2 + 4 + 8);
        due.is("it needs one more, not this", x.pitches(0, 0), 2 + 4 + 8);
        due.is("without beat 2 there is too little", x.pitches(0, 2), 0);
        due.is("the hearer's own", x.pitches(1, 0), 1 + 2);
        x.reading(0, 0, 1, 2, 1);
        // beat 1 of beat 0 (0 and 2), beat 2 of beat 1, beat 3 of beat 2 (1 and 2: it fits)
        due.is("one more fits none", x.pitches(0, 1), 2 + 8);
        x.back(1);
        x.reading(0, 0, 0, 0, 4);
        due.is("a beat that counts itself", x.pitches(0, 1), 2 + 4 + 8);
        x.reading(0, 0, 0, 1, 1);
        due.is("never", x.pitches(0, 1), 0);
    }

    private static void askingChangesNothing() {
        PitchRows x = Due.with("c3;b0-2");
        x.reading(0, 0, 0, 0, 3);
        x.kinds(0);
        x.pitches(0, 1);
        x.pitches(0, 0);
        due.is("kind", x.ofCaller(0, 0), 1);
        due.is("beat 0", x.ofCaller(0, 10), 0);
        due.is("beat 1", x.ofCaller(0, 11), PitchRows.NONE);
        due.is("beat 2", x.ofCaller(0, 12), 2);
    }

    private static void callsAsTheyAreNow() {
        PitchRows x = Due.with("c2;p01;p01");
        x.reading(0, 1, 0, 0, 2);
        due.is("kinds(0)", x.kinds(0), 1 + 2);
        x.tune(1, 0, 1);
        due.is("kinds(0) tuned", x.kinds(0), 2);
        x.tune(1, 0, -1);
        due.is("kinds(0) free", x.kinds(0), 4);
        due.is("pitches(1, 0)", x.pitches(1, 0), 1);
    }

    private static void share(String text, int v, int upper, int lower) {
        PitchRows x = Due.with(text);
        due.is(text + " odds(0, " + v + ", 0)", x.odds(0, v, 0), upper);
        due.is(text + " odds(0, " + v + ", 1)", x.odds(0, v, 1), lower);
    }

    private static void shares() {
        share("c2;p01", 0, 1, 1);
        share("c2;p01", 1, 1, 60);
        share("c2;p01", 2, 0, 1);
        share("c2;p01", 20, 0, 1);
        share("c2;p--", 1, 0, 1);
        share("c2;b0-", 1, 1, 60);
        // late 0: high -1, 1 (2); late -1, 1: high -1, 0, 1 about where it fits (3 each)
        share("c2;b01", 1, 1, 15);
        share("c2;k01", 2, 1, 30);
        share("c2;k01", 1, 1, 15);
        share("c6;p012345", 1, 1, 12);
        share("c6;p012345", 5, 1, 60);
        share("c6;p012345", 4, 1, 30);
        // late 0: high -1, 1 (2); ten other lates: high -1, 0, 1 (3 each)
        share("c6;k000000", 1, 4, 15);
        share("c3;p021", 1, 1, 20);
    }

    private static void refusals() {
        PitchRows x = Due.with("c2;p01;k1-");
        due.is("kinds(2)", x.kinds(2), PitchRows.UNKNOWN);
        due.is("kinds(-1)", x.kinds(-1), PitchRows.UNKNOWN);
        due.is("pitches(2, 0)", x.pitches(2, 0), PitchRows.UNKNOWN);
        due.is("pitches(-1, 0)", x.pitches(-1, 0), PitchRows.UNKNOWN);
        due.is("pitches(0, 2)", x.pitches(0, 2), PitchRows.UNKNOWN);
        due.is("pitches(0, -1)", x.pitches(0, -1), PitchRows.UNKNOWN);
        due.is("odds(2, 0, 0)", x.odds(2, 0, 0), PitchRows.LOST);
        due.is("odds(-1, 0, 0)", x.odds(-1, 0, 0), PitchRows.LOST);
        due.is("odds(0, 21, 0)", x.odds(0, 21, 0), PitchRows.LOST);
        due.is("odds(0, -1, 0)", x.odds(0, -1, 0), PitchRows.LOST);
        due.is("odds(0, 0, 2)", x.odds(0, 0, 2), PitchRows.LOST);
        due.is("odds(0, 0, -1)", x.odds(0, 0, -1), PitchRows.LOST);
        x.cell(0, 0, 0);
        x.odds(0, 21, 0);
        due.is("odds leaves the fault", x.fault(), 1);
    }
}
