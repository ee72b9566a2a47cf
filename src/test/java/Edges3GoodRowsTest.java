/** The boundary cases of promises 12 to 16, each with the sentence that names it. */
public final class Edges3GoodRowsTest {
    private static final Due due = new Due("Edges3GoodRowsTest");
    private static final int MIN = Integer.MIN_VALUE, MAX = Integer.MAX_VALUE;
    private static final int UNKNOWN = PitchRows.UNKNOWN, OUTSIDE = PitchRows.OUTSIDE, STATE = PitchRows.STATE;
    private static final int NONE = PitchRows.NONE;

    public static void main(String[] args) {
        Edges.run(Edges3GoodRowsTest.class, due);
    }

    private static void peak(String text, int most, int late, int high) {
        PitchRows x = Due.with(text);
        due.is(text + " how much", x.peak(0, 0), most);
        due.is(text + " late", x.peak(0, 1), late);
        due.is(text + " high", x.peak(0, 2), high);
    }

    // ---- promise 12

    @Says({"PEAK of a CALLER: the most it HEARS of its own CALL by a SHIFT that is not 0, 0;",
        "PEAK: how much (what 0), late (1), high (2)."})
    static void p12_aShiftThatIsNot00() {
        // by 0, 0 each of these hears more
        peak("c2;p01", 1, -1, -1);
        peak("c2;p10", 1, -1, 1);
        peak("c2;k01", 2, -1, -1);
        peak("c6;p014352", 1, -5, -2);
        peak("c6;p000000", 5, -1, 0);
        peak("c6;k000000", 10, -1, 0);
    }

    @Says("of several the first (by late, then by high, from -5 on).")
    static void p12_ofSeveralTheFirst() {
        // nothing is heard by any shift: the first of all is -5, -5
        peak("c2;p--", 0, -5, -5);
        peak("c6;k------", 0, -5, -5);
        peak("c2;p0-", 0, -5, -5);
        // late 0 alone: of high -1 and 1 the first
        peak("c2;b-1", 1, 0, -1);
        // late -5 and 5 alone
        peak("c6;p0----5", 1, -5, -5);
        peak("c6;p5----0", 1, -5, 5);
        peak("c6;p3----3", 1, -5, 0);
        // late -5 is ahead, but late 0, high -1 fits in both beats
        peak("c6;b5----4", 2, 0, -1);
        // late -2, high -2 and late 2, high 2 fit alike
        peak("c6;p002244", 4, -2, -2);
        // late -2 is ahead of late -1, which fits by high -1 and 0
        peak("c3;p001", 1, -2, -1);
        peak("c3;p00-", 1, -1, 0);
    }

    @Says("UNKNOWN; OUTSIDE.")
    static void p12_what() {
        PitchRows x = Due.with("c2;p01");
        for (int what : new int[] {-1, 3, MIN, MAX}) {
            due.is("what " + what, x.peak(0, what), OUTSIDE);
            due.is("what " + what + " of no caller", x.peak(1, what), UNKNOWN);
            due.is("what " + what + " without callers", new PitchRows().peak(0, what), UNKNOWN);
        }
        due.is("caller -1", x.peak(-1, 0), UNKNOWN);
    }

    // ---- promise 13

    @Says({"CLASH of a CALLER and a CALL: the most by any SHIFT (0, 0, too).", "CLASH."})
    static void p13_theMostByAnyShift() {
        PitchRows x = Due.with("c6;p014352;k014352;p5-----;p-----0");
        due.is("by 0, 0", x.clash(0, 0), 6);
        due.is("by 0, 0, keen", x.clash(1, 0), 12);
        due.is("of a keen one's call", x.clash(0, 1), 6);
        due.is("by late -5, high 5", x.clash(2, 3), 1);
        due.is("by late 5, high -5", x.clash(3, 2), 1);
        PitchRows two = Due.with("c2;p01;k10;p--;b00");
        due.is("two beats, upside down", two.clash(0, 1), 1);
        due.is("two beats, keen, upside down", two.clash(1, 0), 2);
        due.is("of a call all free", two.clash(1, 2), 0);
        due.is("of one whose call is free", two.clash(2, 1), 0);
        due.is("broad, 0 and 1 beside 0 and 0", two.clash(3, 0), 2);
    }

    @Says("UNKNOWN: either.")
    static void p13_either() {
        PitchRows x = Due.with("c2;p01");
        for (int k : new int[] {-1, 1, 4, MIN, MAX}) {
            due.is("clash(" + k + ", 0)", x.clash(k, 0), UNKNOWN);
            due.is("clash(0, " + k + ")", x.clash(0, k), UNKNOWN);
        }
        due.is("clash(0, 0) without callers", new PitchRows().clash(0, 0), UNKNOWN);
    }

    // ---- promise 14

    @Says({"A row of n PITCHES is GOOD, if they are all unlike, and a PLAIN CALLER that had it would HEAR 1 at most by each"
            + " SHIFT but 0, 0.", "ROWS: how many GOOD ones there are.", "ROWS."})
    static void p14_rowsOf2To6Beats() {
        int[] want = {2, 4, 12, 40, 116};
        String[] calls = {"00", "---", "0123", "4-4-4", "------"};
        String[] kinds = {"p", "b", "k", "p", "b"};
        PitchRows x = new PitchRows();
        for (int n = 2; n <= 6; n++) {
            Due.told(x, "c" + n + ";" + kinds[n - 2] + calls[n - 2]);
            due.is("rows of " + n, x.rows(), want[n - 2]);
            due.is("once more", x.rows(), want[n - 2]);
        }
        Due.told(x, "c2;k01");
        due.is("rows of 2 behind those of 6", x.rows(), 2);
    }

    @Says("STATE: there are no CALLERS.")
    static void p14_noCallers() {
        PitchRows x = new PitchRows();
        due.is("rows()", x.rows(), STATE);
        Due.told(x, "c2;p0");
        due.is("behind a text that is none", x.rows(), STATE);
        Due.told(x, "c2;p0-");
        due.is("behind a text", x.rows(), 2);
    }

    // ---- promise 15

    private static long[] waysOf(PitchRows x, int k) {
        long[] ways = new long[7];
        for (int i = -1; i <= 5; i++) {
            ways[i + 1] = x.ways(k, i);
        }
        return ways;
    }

    @Says({"WAYS of a CALL: how many GOOD ones there are that have its PITCHES where it is not FREE; the first such.",
        "WAYS of a CALL: how many (i -1), the PITCH of BEAT i (0 .. 5) of the first;"})
    static void p15_allFree() {
        due.row("--", waysOf(Due.with("c2;k--"), 0), 2, 0, 1, NONE, NONE, NONE, NONE);
        due.row("---", waysOf(Due.with("c3;b---"), 0), 4, 0, 2, 1, NONE, NONE, NONE);
        due.row("----", waysOf(Due.with("c4;p----"), 0), 12, 0, 1, 3, 2, NONE, NONE);
        due.row("------", waysOf(Due.with("c6;p------"), 0), 116, 0, 1, 4, 3, 5, 2);
        due.is("-----", Due.with("c5;p-----").ways(0, -1), 40);
    }

    @Says("that have its PITCHES where it is not FREE")
    static void p15_partlyFree() {
        due.row("-0", waysOf(Due.with("c2;p-0"), 0), 1, 1, 0, NONE, NONE, NONE, NONE);
        due.row("1-", waysOf(Due.with("c2;p1-"), 0), 1, 1, 0, NONE, NONE, NONE, NONE);
        due.row("2--", waysOf(Due.with("c3;p2--"), 0), 1, 2, 0, 1, NONE, NONE, NONE);
        due.row("54----", waysOf(Due.with("c6;p54----"), 0), 2, 5, 4, 0, 2, 3, 1);
        due.row("-14352", waysOf(Due.with("c6;p-14352"), 0), 1, 0, 1, 4, 3, 5, 2);
        due.row("01435-", waysOf(Due.with("c6;p01435-"), 0), 1, 0, 1, 4, 3, 5, 2);
    }

    @Says("how many GOOD ones there are")
    static void p15_notFreeAtAll() {
        due.row("01", waysOf(Due.with("c2;p01"), 0), 1, 0, 1, NONE, NONE, NONE, NONE);
        due.row("00", waysOf(Due.with("c2;p00"), 0), 0, NONE, NONE, NONE, NONE, NONE, NONE);
        due.row("541203", waysOf(Due.with("c6;p541203"), 0), 1, 5, 4, 1, 2, 0, 3);
        due.row("012345", waysOf(Due.with("c6;p012345"), 0), 0, NONE, NONE, NONE, NONE, NONE, NONE);
    }

    @Says("NONE: there is no such BEAT, no way.")
    static void p15_noSuchBeatNoWay() {
        for (int n = 2; n <= 6; n++) {
            PitchRows x = Due.with(("c" + n + ";p------").substring(0, 4 + n));
            for (int i = 0; i <= 5; i++) {
                due.holds("beat " + i + " of " + n, x.ways(0, i) == NONE ^ i < n);
            }
            x.tune(0, 0, 1);
            x.tune(0, 1, 1);
            due.is("no way, how many of " + n, x.ways(0, -1), 0);
            for (int i = 0; i <= 5; i++) {
                due.is("no way, beat " + i + " of " + n, x.ways(0, i), NONE);
            }
        }
        PitchRows x = Due.with("c3;p-1-");
        due.is("the middle can't be 1, how many", x.ways(0, -1), 0);
        due.is("the middle can't be 1", x.ways(0, 1), NONE);
    }

    @Says("UNKNOWN; OUTSIDE.")
    static void p15_i() {
        PitchRows x = Due.with("c6;p------");
        due.is("i -1", x.ways(0, -1), 116);
        due.is("i 5", x.ways(0, 5), 2);
        for (int i : new int[] {-2, 6, MIN, MAX}) {
            due.is("i " + i, x.ways(0, i), OUTSIDE);
            due.is("i " + i + " of no caller", x.ways(1, i), UNKNOWN);
        }
        due.is("caller -1", x.ways(-1, -1), UNKNOWN);
    }

    // ---- promise 16

    private static long[] nextOf(String text) {
        PitchRows x = Due.with(text);
        long[] next = new long[6];
        for (int i = 0; i <= 5; i++) {
            next[i] = x.next(0, i);
        }
        return next;
    }

    @Says({"NEXT of a CALL without FREE BEATS: the first GOOD one that comes behind it (rows by their first PITCHES that"
            + " differ).", "NEXT of a CALL: the PITCH of BEAT i (0 .. 5);"})
    static void p16_theFirstThatComesBehind() {
        due.row("00", nextOf("c2;p00"), 0, 1, NONE, NONE, NONE, NONE);
        due.row("01", nextOf("c2;k01"), 1, 0, NONE, NONE, NONE, NONE);
        due.row("000000", nextOf("c6;p000000"), 0, 1, 4, 3, 5, 2);
        due.row("014351", nextOf("c6;p014351"), 0, 1, 4, 3, 5, 2);
        due.row("541202", nextOf("c6;b541202"), 5, 4, 1, 2, 0, 3);
        due.row("022", nextOf("c3;p022"), 1, 0, 2, NONE, NONE, NONE);
        due.row("021 is good itself", nextOf("c3;p021"), 1, 0, 2, NONE, NONE, NONE);
        due.row("014352 is good itself", nextOf("c6;p014352"), 0, 1, 5, 3, 2, 4);
        due.row("02314 is good itself", nextOf("c5;p02314"), 0, 3, 1, 2, 4, NONE);
    }

    @Says("NONE: there is no such BEAT, no such row.")
    static void p16_noSuchRowBehindTheLastOne() {
        String[] texts = {"c2;p10", "c2;p11", "c3;p201", "c3;p210", "c4;p3201", "c6;p541203", "c6;p555555", "c6;p541204"};
        for (String text : texts) {
            due.row(text, nextOf(text), NONE, NONE, NONE, NONE, NONE, NONE);
        }
        due.row("c4;p3200", nextOf("c4;p3200"), 3, 2, 0, 1, NONE, NONE);
        due.row("no beat 3", nextOf("c3;p200"), 2, 0, 1, NONE, NONE, NONE);
    }

    @Says("UNKNOWN; OUTSIDE; STATE: a BEAT is FREE.")
    static void p16_iAndAFreeBeat() {
        PitchRows x = Due.with("c6;p000000;p-00000;p00000-;p------");
        due.is("i 0", x.next(0, 0), 0);
        due.is("i 5", x.next(0, 5), 2);
        for (int i : new int[] {-1, 6, MIN, MAX}) {
            due.is("i " + i, x.next(0, i), OUTSIDE);
            due.is("i " + i + ", a beat is free", x.next(1, i), OUTSIDE);
            due.is("i " + i + " of no caller", x.next(4, i), UNKNOWN);
        }
        for (int k = 1; k <= 3; k++) {
            due.is("a beat of " + k + " is free", x.next(k, 0), STATE);
            due.is("a beat of " + k + " is free, i 5", x.next(k, 5), STATE);
        }
        due.is("a beat is free, there is no such beat", Due.with("c2;p0-").next(0, 5), STATE);
        x.tune(1, 0, 0);
        due.is("no longer free", x.next(1, 5), 2);
    }
}
