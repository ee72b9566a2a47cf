/** The boundary cases of promises 6 to 11, each with the sentence that names it. */
public final class Edges2AirTest {
    private static final Due due = new Due("Edges2AirTest");
    private static final int MIN = Integer.MIN_VALUE, MAX = Integer.MAX_VALUE;
    private static final int UNKNOWN = PitchRows.UNKNOWN, OUTSIDE = PitchRows.OUTSIDE, STATE = PitchRows.STATE;
    private static final int FULL = PitchRows.FULL, NONE = PitchRows.NONE;
    private static final int IS_NULL = -11, CAST = -12, INDEX = -13;
    private static final int[] DAY_WHATS = {0, 1, 2, 3, 4, 10, 11, 12, 13};

    public static void main(String[] args) {
        Edges.run(Edges2AirTest.class, due);
    }

    // ---- promise 6

    @Says({"SENDINGS, 8 at most, numbered by how many there are:", "A CALL is SENT: the number of the SENDING.", "FULL."})
    static void p06_theEighthAndTheNinthSending() {
        PitchRows x = Due.with("c2;p01");
        for (int m = 0; m < 7; m++) {
            due.is("sending " + m, x.send(0, m, 0), m);
        }
        due.is("the eighth", x.send(0, 10, 0), 7);
        due.is("the ninth", x.send(0, 15, 0), FULL);
        due.is("many(2)", x.many(2), 8);
        due.is("the eighth sounds", x.air(10), 1);
        due.is("the ninth does not", x.air(15), 0);
        due.is("the ninth, not higher than it may be", x.send(0, 20, 6), OUTSIDE);
        due.is("the ninth, of no caller", x.send(1, 15, 0), UNKNOWN);
        x.unsend(1);
        due.is("the eighth once more", x.send(0, 15, 0), 7);
        due.is("it sounds", x.air(15), 1);
    }

    @Says({"the CALL of a CALLER, from a MOMENT (0 .. 20) on, a BEAT each MOMENT", "UNKNOWN; OUTSIDE: moment (0 .. 20)"})
    static void p06_moment() {
        PitchRows x = Due.with("c2;p01");
        due.is("moment 0", x.send(0, 0, 0), 0);
        due.is("air(0)", x.air(0), 1);
        due.is("air(1)", x.air(1), 2);
        due.is("moment 20", x.send(0, 20, 0), 1);
        due.is("air(20)", x.air(20), 1);
        due.is("air(21)", x.air(21), 2);
        for (int moment : new int[] {-1, 21, 25, 26, MIN, MAX}) {
            due.is("moment " + moment, x.send(0, moment, 0), OUTSIDE);
            due.is("moment " + moment + " of no caller", x.send(1, moment, 0), UNKNOWN);
        }
        due.is("many(2)", x.many(2), 2);
    }

    @Says({"each PITCH high more (0 .. 5).", "high (0 .. 5); FULL."})
    static void p06_high() {
        PitchRows x = Due.with("c2;p01");
        due.is("high 0", x.send(0, 0, 0), 0);
        due.is("air(0)", x.air(0), 1);
        due.is("high 5", x.send(0, 2, 5), 1);
        due.is("air(2)", x.air(2), 32);
        due.is("air(3)", x.air(3), 64);
        for (int high : new int[] {-1, 6, MIN, MAX}) {
            due.is("high " + high, x.send(0, 4, high), OUTSIDE);
            due.is("high " + high + " of no caller", x.send(-1, 4, high), UNKNOWN);
        }
        due.is("many(2)", x.many(2), 2);
    }

    // ---- promise 7

    @Says("The last m SENDINGS (0 .. as many as there are) are taken back: how many are left. OUTSIDE.")
    static void p07_howManyAreTakenBack() {
        for (int sent = 0; sent <= 8; sent++) {
            for (int m = -1; m <= sent + 1; m++) {
                PitchRows x = Due.with("c2;p0-");
                for (int s = 0; s < sent; s++) {
                    x.send(0, s, 0);
                }
                boolean isSo = m >= 0 && m <= sent;
                due.is("unsend(" + m + ") of " + sent, x.unsend(m), isSo ? sent - m : OUTSIDE);
                due.is("many(2)", x.many(2), isSo ? sent - m : sent);
                for (int s = 0; s < sent; s++) {
                    boolean isLeft = !isSo || s < sent - m;
                    due.is("unsend(" + m + ") of " + sent + ", air(" + s + ")", x.air(s), isLeft ? 1 : 0);
                }
            }
        }
    }

    @Says("0 .. as many as there are")
    static void p07_withoutCallers() {
        PitchRows x = new PitchRows();
        due.is("unsend(0)", x.unsend(0), 0);
        for (int m : new int[] {-1, 1, 8, MIN, MAX}) {
            due.is("unsend(" + m + ")", x.unsend(m), OUTSIDE);
        }
    }

    // ---- promise 8

    @Says("AIR of a MOMENT (0 .. 25), as a set.")
    static void p08_moments() {
        PitchRows x = Due.with("c6;p555555");
        x.send(0, 0, 0);
        x.send(0, 20, 5);
        for (int moment = 0; moment <= 25; moment++) {
            int want = moment < 6 ? 32 : moment < 20 ? 0 : 1024;
            due.is("air(" + moment + ")", x.air(moment), want);
        }
    }

    @Says("OUTSIDE; STATE: there are no CALLERS.")
    static void p08_outsideAndNoCallers() {
        PitchRows x = Due.with("c2;p01");
        PitchRows none = new PitchRows();
        for (int moment : new int[] {-1, 26, MIN, MAX}) {
            due.is("air(" + moment + ")", x.air(moment), OUTSIDE);
            due.is("air(" + moment + ") without callers", none.air(moment), OUTSIDE);
        }
        due.is("air(0) without callers", none.air(0), STATE);
        due.is("air(25) without callers", none.air(25), STATE);
        due.is("air(0)", x.air(0), 0);
        due.is("air(25)", x.air(25), 0);
    }

    @Says("AIR of a MOMENT: all PITCHES that sound then, as a set (calls as they are now).")
    static void p08_callsAsTheyAreNow() {
        PitchRows x = Due.with("c3;p0-2;p111");
        x.send(0, 5, 1);
        x.send(1, 5, 0);
        due.is("the same pitch of two", x.air(5), 2);
        due.is("a free beat", x.air(6), 2);
        due.is("two pitches", x.air(7), 2 + 8);
        x.tune(0, 0, 2);
        due.is("tuned", x.air(5), 2 + 8);
        x.tune(0, 1, 2);
        due.is("no longer free", x.air(6), 2 + 8);
        x.tune(0, 2, -1);
        due.is("free now", x.air(7), 2);
        due.is("behind it", x.air(8), 0);
        due.is("ahead of it", x.air(4), 0);
    }

    // ---- promise 9

    @Says({"LISTENS of a CALLER from a MOMENT t on: over his BEATS i: what he COUNTS of his PITCH and the AIR of MOMENT t and"
            + " i together: 1, 2 as told, if any PITCH there is the same, one beside",
        "(each once: a KEEN one 2, if it is the same there, 1, if one beside alone is)."})
    static void p09_eachOnce() {
        // what sounds, by the pitch's own place 1: below, same, above
        for (int sounding = 0; sounding < 8; sounding++) {
            PitchRows x = Due.with("c2;p1-;b1-;k1-;p0-");
            for (int high = 0; high < 3; high++) {
                if ((sounding >> high & 1) == 1) {
                    x.send(3, 4, high);
                    x.send(3, 4, high);
                }
            }
            boolean isSame = (sounding & 2) != 0;
            boolean isBeside = (sounding & 5) != 0;
            due.is("plain, " + sounding, x.listen(0, 4), isSame ? 1 : 0);
            due.is("broad, " + sounding, x.listen(1, 4), isSame || isBeside ? 1 : 0);
            due.is("keen, " + sounding, x.listen(2, 4), isSame ? 2 : isBeside ? 1 : 0);
        }
    }

    @Says("what he COUNTS of his PITCH and the AIR of MOMENT t")
    static void p09_leastAndHighestPitch() {
        PitchRows x = Due.with("c6;b0-----;b5-----;b------;p0-----");
        x.send(3, 1, 0);
        x.send(1, 3, 5);
        x.send(1, 5, 1);
        due.is("0 and 0", x.listen(0, 1), 1);
        due.is("5 and 0", x.listen(1, 1), 0);
        due.is("free and 0", x.listen(2, 1), 0);
        due.is("0 and 10", x.listen(0, 3), 0);
        due.is("5 and 10", x.listen(1, 3), 0);
        due.is("5 and 6", x.listen(1, 5), 1);
        due.is("0 and nothing", x.listen(0, 0), 0);
    }

    @Says("behind MOMENT 25 nothing sounds")
    static void p09_behindMoment25NothingSounds() {
        PitchRows x = Due.with("c6;k555555");
        x.send(0, 20, 0);
        int[] want = {12, 10, 8, 6, 4, 2};
        for (int i = 0; i < 6; i++) {
            due.is("listen(0, " + (20 + i) + ")", x.listen(0, 20 + i), want[i]);
        }
        due.is("listen(0, 15)", x.listen(0, 15), 2);
        due.is("listen(0, 14)", x.listen(0, 14), 0);
    }

    @Says("LISTENS from a MOMENT (0 .. 25) on (behind MOMENT 25 nothing sounds). UNKNOWN; OUTSIDE.")
    static void p09_moment() {
        PitchRows x = Due.with("c2;p01");
        x.send(0, 0, 0);
        due.is("moment 0", x.listen(0, 0), 2);
        due.is("moment 25", x.listen(0, 25), 0);
        for (int moment : new int[] {-1, 26, MIN, MAX}) {
            due.is("moment " + moment, x.listen(0, moment), OUTSIDE);
            due.is("moment " + moment + " of no caller", x.listen(1, moment), UNKNOWN);
            due.is("moment " + moment + " without callers", new PitchRows().listen(0, moment), UNKNOWN);
        }
    }

    // ---- promise 10

    @Says("of several the first")
    static void p10_ofSeveralTheFirst() {
        PitchRows x = Due.with("c2;p01;k--;b1-");
        x.send(0, 20, 0);
        due.is("one", x.loudest(0, 0), 20);
        x.send(0, 10, 0);
        due.is("of two", x.loudest(0, 0), 10);
        x.send(0, 0, 0);
        due.is("of three", x.loudest(0, 0), 0);
        due.is("how much", x.loudest(0, 1), 2);
        due.is("the first beside is ahead of the first same", x.loudest(2, 0), 0);
        due.is("how much", x.loudest(2, 1), 1);
    }

    @Says("The MOMENT (0 .. 25) from which a CALLER LISTENS to the most (what 0; of several the first), how much that is (1).")
    static void p10_nothingAndTheLastMoment() {
        PitchRows x = Due.with("c6;p-----5;p5-----;p------");
        due.is("nothing sounds: when", x.loudest(0, 0), 0);
        due.is("nothing sounds: how much", x.loudest(0, 1), 0);
        x.send(0, 20, 0);
        due.is("from moment 25 on", x.loudest(1, 0), 25);
        due.is("how much", x.loudest(1, 1), 1);
        due.is("from moment 20 on", x.loudest(0, 0), 20);
        due.is("all is free: when", x.loudest(2, 0), 0);
        due.is("all is free: how much", x.loudest(2, 1), 0);
    }

    @Says("UNKNOWN; OUTSIDE.")
    static void p10_what() {
        PitchRows x = Due.with("c2;p01");
        for (int what : new int[] {-1, 2, MIN, MAX}) {
            due.is("what " + what, x.loudest(0, what), OUTSIDE);
            due.is("what " + what + " of no caller", x.loudest(1, what), UNKNOWN);
        }
        due.is("caller -1", x.loudest(-1, 0), UNKNOWN);
    }

    // ---- promise 11: the day

    @Says({"A DAY told: a row of pairs, one behind another, from how all is now (nothing is changed):", "A DAY of n pairs"})
    static void p11_aDayOfNoPairs() {
        int[] empty = {0, NONE, 0, NONE, NONE, 0, 0, NONE, NONE};
        int[] asNow = {3, NONE, 4, 21, 4, 4, 2, NONE, NONE};
        PitchRows x = Due.with("c2;k01;p10");
        x.sheet(0, 0, 0);
        for (int w = 0; w < DAY_WHATS.length; w++) {
            due.is("nothing is sent, what " + DAY_WHATS[w], x.day(0, 0, 0, 0, DAY_WHATS[w]), empty[w]);
        }
        x.send(0, 4, 0);
        x.send(1, 4, 0);
        x.send(0, 20, 5);
        for (int w = 0; w < DAY_WHATS.length; w++) {
            due.is("as it is now, what " + DAY_WHATS[w], x.day(0, 0, 0, 0, DAY_WHATS[w]), asNow[w]);
        }
    }

    @Says("n (0 .. 20)")
    static void p11_aDayOf20Pairs() {
        PitchRows x = Due.with("c2;p01");
        int[] pairs = new int[44];
        for (int p = 0; p < 20; p++) {
            boolean isBack = p % 8 == 7;
            pairs[2 * p] = isBack ? 7 : p;
            pairs[2 * p + 1] = isBack ? 9 : 0;
        }
        pairs[40] = 8;
        pairs[41] = 9;
        Due.cells(x, 1, pairs);
        due.is("20 pairs", x.day(1, 2, 0, 20, 0), 4);
        due.is("their first wrong", x.day(1, 2, 0, 20, 1), NONE);
        due.is("21 pairs", x.day(1, 2, 0, 21, 0), OUTSIDE);
        due.is("20 pairs, from the second on", x.day(1, 2, 2, 20, 1), 6);
        for (int n : new int[] {-1, 21, 22, MIN, MAX}) {
            due.is("n " + n, x.day(1, 2, 0, n, 0), OUTSIDE);
            due.is("fault()", x.fault(), 0);
        }
    }

    @Says({"A DAY of n pairs, that are cells of a SHEET from i on (2 n):", "how many SENDINGS there are then (what 0)"})
    static void p11_pairsFromIOn() {
        for (int lane = 0; lane <= 2; lane++) {
            PitchRows x = Due.with("c2;p01;p11");
            x.sheet(0, lane, 6);
            int[] cells = {99, 3, 1, 20, 0, 99};
            for (int i = 0; i < 6; i++) {
                x.put(0, i, cells[i]);
            }
            due.is("from 1 on", x.day(0, lane, 1, 2, 0), 2);
            due.is("the last that sounds", x.day(0, lane, 1, 2, 3), 21);
            due.is("from 0 on", x.day(0, lane, 0, 1, 0), OUTSIDE);
            due.is("from 4 on", x.day(0, lane, 4, 1, 0), OUTSIDE);
            due.is("from 5 on", x.day(0, lane, 5, 1, 0), INDEX);
            due.is("none from 6 on", x.day(0, lane, 6, 0, 0), 0);
        }
    }

    @Says("a MOMENT and 0 .. 3: that CALLER's CALL is SENT (not higher)")
    static void p11_sentNotHigher() {
        PitchRows x = Due.with("c2;p00;p0-;k-0;k00");
        x.send(0, 9, 5);
        due.is("where it was sent higher, two pitches", Due.day(x, 4, 9, 0), 9);
        due.is("of caller 3", Due.day(x, 13, 0, 3), 4);
        due.is("of caller 2", Due.day(x, 13, 0, 2), 2);
        due.is("moments of caller 1", Due.day(x, 2, 0, 1), 3);
        due.is("in moment 0", Due.day(x, 11, 0, 0), 1);
        due.is("in moment 20", Due.day(x, 3, 20, 0), 21);
    }

    @Says("so many (0 .. 8) and 9: the last SENDINGS are taken back.")
    static void p11_soManyAreTakenBack() {
        PitchRows x = Due.with("c2;p01");
        x.send(0, 1, 0);
        x.send(0, 11, 0);
        due.is("none", Due.day(x, 0, 0, 9), 2);
        due.is("the last", Due.day(x, 3, 1, 9), 2);
        due.is("both", Due.day(x, 3, 2, 9), NONE);
        due.is("both, one by one", Due.day(x, 0, 1, 9, 1, 9), 0);
        due.is("one more", Due.day(x, 1, 3, 9), 0);
        due.is("those of the day, and those that were", Due.day(x, 0, 3, 0, 5, 0, 4, 9), 0);
        for (int m = 2; m < 8; m++) {
            x.send(0, 0, 0);
        }
        due.is("eight", Due.day(x, 0, 8, 9), 0);
        due.is("none of none", Due.day(x, 0, 8, 9, 0, 9), 0);
    }

    @Says({"FIRST WRONG: the first act that can't be (there is no such CALLER", "its FIRST WRONG (1; NONE)"})
    static void p11_firstWrongThereIsNoSuchCaller() {
        for (int callers = 1; callers <= 4; callers++) {
            PitchRows x = Due.with("c2;p01;p01;p01;p01".substring(0, 2 + 4 * callers));
            for (int k = 0; k <= 3; k++) {
                int wrong = k < callers ? NONE : 0;
                due.is("caller " + k + " of " + callers + ", the first pair", Due.day(x, 1, 0, k), wrong);
                due.is("caller " + k + " of " + callers + ", the last pair", Due.day(x, 1, 0, 0, 20, k), wrong == 0 ? 1 : NONE);
            }
        }
    }

    @Says("a ninth one")
    static void p11_firstWrongANinthOne() {
        PitchRows x = Due.with("c2;p01");
        int[] nine = new int[18];
        due.is("eight", Due.day(x, 1, new int[16]), NONE);
        due.is("eight", Due.day(x, 0, new int[16]), 8);
        due.is("nine, the last pair", Due.day(x, 1, nine), 8);
        due.is("nine, what 0", Due.day(x, 0, nine), -108);
        for (int m = 1; m <= 8; m++) {
            x.send(0, 0, 0);
            due.is("with " + m + " that were", Due.day(x, 1, nine), 8 - m);
        }
        due.is("the first pair", Due.day(x, 1, 0, 0), 0);
        due.is("one back, then one", Due.day(x, 0, 1, 9, 0, 0), 8);
    }

    @Says("there are not so many")
    static void p11_firstWrongThereAreNotSoMany() {
        PitchRows x = Due.with("c2;p01");
        due.is("one of none, the first pair", Due.day(x, 1, 1, 9), 0);
        due.is("eight of none", Due.day(x, 1, 8, 9), 0);
        due.is("none of none", Due.day(x, 1, 0, 9), NONE);
        due.is("two of one, the last pair", Due.day(x, 1, 0, 0, 2, 9), 1);
        due.is("one of one", Due.day(x, 1, 0, 0, 1, 9), NONE);
        x.send(0, 0, 0);
        due.is("two of one and one that was", Due.day(x, 1, 0, 0, 2, 9), NONE);
        due.is("three", Due.day(x, 1, 0, 0, 3, 9), 1);
    }

    @Says("the first act that can't be")
    static void p11_ofSeveralWrongTheFirst() {
        PitchRows x = Due.with("c2;p01");
        due.is("all three", Due.day(x, 1, 0, 0, 0, 1, 8, 9, 0, 2), 1);
        due.is("the first and the last", Due.day(x, 1, 1, 9, 0, 0, 0, 3), 0);
        due.is("what comes behind is not done", Due.day(x, 0, 0, 1, 0, 0, 0, 9), -100);
    }

    @Says("of one with a FIRST WRONG: -100 less that (but what 1).")
    static void p11_whatADayWithAFirstWrongAnswers() {
        PitchRows x = Due.with("c2;p01;b10");
        int[] last = new int[40];
        for (int p = 0; p < 20; p++) {
            last[2 * p + 1] = p % 2 == 0 ? 0 : 9;
            last[2 * p] = p % 2 == 0 ? p : 1;
        }
        last[38] = 2;
        for (int what : DAY_WHATS) {
            due.is("at its first pair, what " + what, Due.day(x, what, 5, 2), what == 1 ? 0 : -100);
            due.is("at its second pair, what " + what, Due.day(x, what, 5, 1, 2, 9), what == 1 ? 1 : -101);
        }
        Due.cells(x, 1, last);
        for (int what : DAY_WHATS) {
            due.is("at its twentieth pair, what " + what, x.day(1, 2, 0, 20, what), what == 1 ? 19 : -119);
        }
        due.is("fault()", x.fault(), 0);
    }

    @Says("(nothing is changed)")
    static void p11_nothingIsChanged() {
        PitchRows x = Due.with("c2;p01;p10");
        x.send(0, 3, 1);
        x.send(1, 4, 0);
        Due.cells(x, 0, 2, 9, 20, 0, 19, 1, 8, 9);
        String before = Seen.of(x);
        for (int what : DAY_WHATS) {
            x.day(0, 2, 0, 3, what);
            x.day(0, 2, 0, 4, what);
        }
        due.holds("all is as it was", Seen.of(x).equals(before));
        due.is("the next number", x.send(0, 20, 0), 2);
    }

    @Says("in how many MOMENTS 0 .. 25 anything sounds then (2)")
    static void p11_inHowManyMomentsAnythingSounds() {
        PitchRows x = Due.with("c6;p012345;p0----5;p------");
        due.is("no pairs", Due.day(x, 2), 0);
        due.is("of a call all free", Due.day(x, 2, 0, 2), 0);
        due.is("the first and the last", Due.day(x, 2, 0, 0, 20, 0), 12);
        due.is("each once", Due.day(x, 2, 7, 0, 7, 0, 7, 1), 6);
        due.is("all", Due.day(x, 2, 0, 0, 6, 0, 12, 0, 18, 0, 20, 0), 26);
    }

    @Says("the last MOMENT in which anything does (3; NONE)")
    static void p11_theLastMomentInWhichAnythingSounds() {
        PitchRows x = Due.with("c6;p0-----;p-----0;p------");
        due.is("no pairs", Due.day(x, 3), NONE);
        due.is("of a call all free", Due.day(x, 3, 20, 2), NONE);
        due.is("moment 0", Due.day(x, 3, 0, 0), 0);
        due.is("moment 25", Due.day(x, 3, 20, 1, 0, 0), 25);
        due.is("taken back", Due.day(x, 3, 0, 0, 20, 1, 1, 9), 0);
    }

    @Says("the first in which two PITCHES do or more (4; NONE)")
    static void p11_theFirstMomentInWhichTwoPitchesSound() {
        PitchRows x = Due.with("c6;p0----0;p1----1;p2-----;p0----2");
        due.is("no pairs", Due.day(x, 4), NONE);
        due.is("the same twice", Due.day(x, 4, 0, 0, 0, 0), NONE);
        due.is("moment 0", Due.day(x, 4, 0, 0, 0, 1), 0);
        due.is("three of them", Due.day(x, 4, 3, 0, 3, 1, 3, 2), 3);
        due.is("moment 25 alone", Due.day(x, 4, 20, 0, 20, 3), 25);
        due.is("the first of several", Due.day(x, 4, 9, 0, 9, 1, 2, 0, 2, 1), 2);
    }

    @Says("the most that CALLER k LISTENS to then (10 and k; NONE: there is no such CALLER);")
    static void p11_theMostThatACallerListensTo() {
        PitchRows x = Due.with("c6;p5-----;k-----5;b444444");
        due.is("nothing", Due.day(x, 10), 0);
        due.is("no such caller", Due.day(x, 13), NONE);
        due.is("from moment 25 on", Due.day(x, 10, 20, 1), 1);
        due.is("keen", Due.day(x, 11, 20, 1), 2);
        due.is("broad, one beside", Due.day(x, 12, 20, 1), 1);
        due.is("broad, all", Due.day(x, 12, 0, 2), 6);
        for (int callers = 1; callers <= 4; callers++) {
            PitchRows y = Due.with("c2;p01;p01;p01;p01".substring(0, 2 + 4 * callers));
            for (int k = 0; k < 4; k++) {
                due.is("caller " + k + " of " + callers, Due.day(y, 10 + k, 0, 0), k < callers ? 2 : NONE);
            }
        }
    }

    // ---- promise 11: what can't be asked

    @Says("pair by pair OUTSIDE: the second is none of 0 .. 3, 9, it is 0 .. 3 and the first is not 0 .. 20, it is 9 and the"
            + " first is not 0 .. 8.")
    static void p11_aPairOutside() {
        for (int second = -2; second <= 11; second++) {
            PitchRows x = Due.with("c2;p01;p01;p01;p01");
            x.sheet(0, 0, 2);
            for (int first = -2; first <= 22; first++) {
                x.put(0, 0, first);
                x.put(0, 1, second);
                boolean isSent = second >= 0 && second <= 3 && first >= 0 && first <= 20;
                boolean isBack = second == 9 && first >= 0 && first <= 8;
                int want = isSent ? NONE : !isBack ? OUTSIDE : first == 0 ? NONE : 0;
                due.is("the pair " + first + ", " + second, x.day(0, 0, 0, 1, 1), want);
                due.is("fault()", x.fault(), 0);
            }
        }
        PitchRows x = Due.with("c2;p01");
        due.is("far", Due.day(x, 1, MAX, 0), OUTSIDE);
        due.is("far", Due.day(x, 1, MIN, 9), OUTSIDE);
        due.is("far", Due.day(x, 1, 0, MAX), OUTSIDE);
        due.is("far", Due.day(x, 1, 0, MIN), OUTSIDE);
    }

    @Says("pair by pair OUTSIDE")
    static void p11_aPairOutsideAnywhere() {
        PitchRows x = Due.with("c2;p01");
        for (int what : DAY_WHATS) {
            due.is("the first of three, what " + what, Due.day(x, what, 21, 0, 0, 0, 0, 0), OUTSIDE);
            due.is("the last of three, what " + what, Due.day(x, what, 0, 0, 0, 0, 9, 9), OUTSIDE);
        }
        due.is("behind a first wrong", Due.day(x, 1, 1, 9, 0, 4), OUTSIDE);
        due.is("ahead of a first wrong", Due.day(x, 1, 0, 4, 1, 9), OUTSIDE);
        due.is("moment 21 of no caller", Due.day(x, 1, 21, 3), OUTSIDE);
    }

    @Says("UNKNOWN: SHEET; OUTSIDE: lane, n (0 .. 20), what (0 .. 4, 10 .. 13);")
    static void p11_laneAndWhat() {
        PitchRows x = Due.with("c2;p01");
        x.sheet(0, 0, 2);
        for (int lane : new int[] {-1, 3, MIN, MAX}) {
            due.is("lane " + lane, x.day(0, lane, 0, 0, 0), OUTSIDE);
            due.is("lane " + lane + " of nothing", x.day(1, lane, 0, 0, 0), OUTSIDE);
            due.is("lane " + lane + " of no sheet", x.day(4, lane, 0, 0, 0), UNKNOWN);
        }
        for (int what : new int[] {-1, 5, 9, 14, MIN, MAX}) {
            due.is("what " + what, x.day(0, 0, 0, 0, what), OUTSIDE);
            due.is("what " + what + " of another lane", x.day(0, 1, 9, 0, what), OUTSIDE);
            due.is("what " + what + " of no sheet", x.day(-1, 0, 0, 0, what), UNKNOWN);
        }
        due.is("what 4", x.day(0, 0, 0, 0, 4), NONE);
        due.is("what 13", x.day(0, 0, 0, 0, 13), NONE);
    }

    @Says("STATE: there are no CALLERS; CAST; NULL; INDEX;")
    static void p11_stateAndFaultsInTheirOrder() {
        PitchRows x = new PitchRows();
        x.sheet(0, 0, 4);
        x.put(0, 1, 4);
        due.is("no callers, another lane", x.day(0, 1, 9, 1, 0), STATE);
        due.is("no callers, nothing", x.day(1, 0, 9, 1, 0), STATE);
        due.is("no callers, index", x.day(0, 0, 9, 1, 0), STATE);
        due.is("no callers, n 21", x.day(0, 0, 9, 21, 0), OUTSIDE);
        due.is("fault()", x.fault(), 0);
        Due.told(x, "c2;p01");
        due.is("another lane, index", x.day(0, 1, 9, 1, 0), CAST);
        for (int lane = 0; lane <= 2; lane++) {
            due.is("nothing is no cast, lane " + lane, x.day(1, lane, 9, 1, 0), IS_NULL);
        }
        int[][] beside = {{-1, 0}, {5, 0}, {-1, 1}, {3, 1}, {4, 1}, {1, 2}, {0, 3}, {0, 20}, {MAX, 1}, {MIN, 1}, {MAX, 20}};
        for (int[] b : beside) {
            due.is("day(0, 0, " + b[0] + ", " + b[1] + ", 0)", x.day(0, 0, b[0], b[1], 0), INDEX);
            due.is("fault()", x.fault(), 3);
        }
        due.is("a pair outside", x.day(0, 0, 0, 2, 0), OUTSIDE);
        due.is("fault()", x.fault(), 0);
    }
}
