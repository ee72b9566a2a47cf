import java.util.ArrayList;
import java.util.List;

/** Promises 12 to 16: peak, clash, rows, ways, next. */
public final class GoodRowsTest {
    private static final Due due = new Due("GoodRowsTest");

    public static void main(String[] args) {
        peaks();
        clashes();
        howManyRows();
        waysOfFreeBeats();
        nextRows();
        everyNextInOrder();
        refusals();
        due.end();
    }

    private static void peak(String text, int k, int most, int late, int high) {
        PitchRows x = Due.with(text);
        due.is(text + " peak(" + k + ", 0)", x.peak(k, 0), most);
        due.is(text + " peak(" + k + ", 1)", x.peak(k, 1), late);
        due.is(text + " peak(" + k + ", 2)", x.peak(k, 2), high);
    }

    private static void peaks() {
        peak("c2;p--", 0, 0, -5, -5);
        peak("c2;p0-", 0, 0, -5, -5);
        peak("c2;b0-", 0, 1, 0, -1);
        peak("c2;p01", 0, 1, -1, -1);
        peak("c2;p00", 0, 1, -1, 0);
        peak("c2;k00", 0, 2, -1, 0);
        peak("c2;p--;p10", 1, 1, -1, 1);
        peak("c6;p012345", 0, 5, -1, -1);
        peak("c6;p543210", 0, 5, -1, 1);
        peak("c6;p0----5", 0, 1, -5, -5);
        peak("c6;p5----0", 0, 1, -5, 5);
        peak("c6;k012345", 0, 10, -1, -1);
        peak("c6;b012345", 0, 6, 0, -1);
        // two late and two high fit in four, one late in none
        peak("c6;p002244", 0, 4, -2, -2);
    }

    private static void clashes() {
        PitchRows x = Due.with("c4;p0132;k0132;p3333;p----");
        due.is("clash(0, 0)", x.clash(0, 0), 4);
        due.is("clash(1, 1)", x.clash(1, 1), 8);
        due.is("clash(1, 0)", x.clash(1, 0), 8);
        due.is("clash(0, 1)", x.clash(0, 1), 4);
        due.is("clash(0, 2)", x.clash(0, 2), 1);
        // 1, 3, 2 are beside or the same as 2
        due.is("clash(1, 2)", x.clash(1, 2), 4);
        due.is("clash(0, 3)", x.clash(0, 3), 0);
        due.is("clash(3, 0)", x.clash(3, 0), 0);
        x.tune(0, 0, 3);
        due.is("clash(0, 1) tuned", x.clash(0, 1), 3);
        PitchRows far = Due.with("c6;p5-----;p-----0");
        due.is("clash by 5 low, 5 late", far.clash(0, 1), 1);
        due.is("clash the other way", far.clash(1, 0), 1);
    }

    private static void howManyRows() {
        int[] rows = {2, 4, 12, 40, 116};
        String[] texts = {"c2;p00", "c3;p---", "c4;k-01-", "c5;p01234", "c6;b------"};
        PitchRows x = new PitchRows();
        for (int t = 0; t < texts.length; t++) {
            Due.told(x, texts[t]);
            due.is(texts[t] + " rows()", x.rows(), rows[t]);
        }
        for (int t = texts.length - 1; t >= 0; t--) {
            Due.told(x, texts[t]);
            due.is(texts[t] + " rows() once more", x.rows(), rows[t]);
        }
        due.is("new rows()", new PitchRows().rows(), PitchRows.STATE);
    }

    private static long[] waysOf(PitchRows x, int k) {
        long[] ways = new long[7];
        for (int i = -1; i < 6; i++) {
            ways[i + 1] = x.ways(k, i);
        }
        return ways;
    }

    private static void waysOfFreeBeats() {
        int none = PitchRows.NONE;
        PitchRows x = Due.with("c3;p---;k1--;b-1-;p021");
        // the good rows: 021, 102, 120, 201
        due.row("---", waysOf(x, 0), 4, 0, 2, 1, none, none, none);
        due.row("1--", waysOf(x, 1), 2, 1, 0, 2, none, none, none);
        due.row("-1-", waysOf(x, 2), 0, none, none, none, none, none, none);
        due.row("021", waysOf(x, 3), 1, 0, 2, 1, none, none, none);
        x.tune(3, 0, 2);
        due.row("221", waysOf(x, 3), 0, none, none, none, none, none, none);
        x.tune(3, 0, -1);
        x.tune(3, 1, -1);
        due.row("--1", waysOf(x, 3), 2, 0, 2, 1, none, none, none);
        x.tune(3, 2, 2);
        due.row("--2", waysOf(x, 3), 1, 1, 0, 2, none, none, none);
        PitchRows six = Due.with("c6;p------");
        due.row("------", waysOf(six, 0), 116, 0, 1, 4, 3, 5, 2);
        six.tune(0, 0, 3);
        six.tune(0, 1, 3);
        due.row("33----", waysOf(six, 0), 0, none, none, none, none, none, none);
        Due.told(six, "c5;p-----;p11---");
        due.is("----- behind ------", six.ways(0, -1), 40);
        due.row("11---", waysOf(six, 1), 0, none, none, none, none, none, none);
        Due.told(six, "c6;p------");
        due.is("------ once more", six.ways(0, -1), 116);
        six.tune(0, 0, 5);
        due.is("5----- is 0----- upside down", six.ways(0, -1), Due.with("c6;p0-----").ways(0, -1));
    }

    private static long[] nextOf(PitchRows x, int k) {
        long[] next = new long[6];
        for (int i = 0; i < 6; i++) {
            next[i] = x.next(k, i);
        }
        return next;
    }

    private static void nextRows() {
        int none = PitchRows.NONE;
        PitchRows x = Due.with("c3;p000;k021;b111;p120");
        due.row("000", nextOf(x, 0), 0, 2, 1, none, none, none);
        due.row("021", nextOf(x, 1), 1, 0, 2, none, none, none);
        due.row("111", nextOf(x, 2), 1, 2, 0, none, none, none);
        due.row("120", nextOf(x, 3), 2, 0, 1, none, none, none);
        x.tune(3, 0, 2);
        x.tune(3, 1, 0);
        x.tune(3, 2, 0);
        due.row("200", nextOf(x, 3), 2, 0, 1, none, none, none);
        x.tune(3, 2, 1);
        due.row("201", nextOf(x, 3), none, none, none, none, none, none);
        x.tune(3, 1, -1);
        due.row("2-1", nextOf(x, 3), -3, -3, -3, -3, -3, -3);
    }

    /** From the least row on, each next is good, and there are as many as there are rows. */
    private static void everyNextInOrder() {
        for (int n = 2; n <= 6; n++) {
            StringBuilder text = new StringBuilder("c").append(n).append(";p");
            for (int i = 0; i < n; i++) {
                text.append('0');
            }
            PitchRows x = Due.with(text.toString());
            List<Integer> seen = new ArrayList<>();
            for (int steps = 0; steps < 200 && x.next(0, 0) != PitchRows.NONE; steps++) {
                long[] next = nextOf(x, 0);
                int code = 0;
                for (int i = 0; i < n; i++) {
                    x.tune(0, i, (int) next[i]);
                    code = code * 10 + (int) next[i];
                }
                due.holds("next of " + n + " grows", seen.isEmpty() || seen.get(seen.size() - 1) < code);
                due.is("next of " + n + " is good", x.ofCaller(0, 2), 1);
                due.is("its peak", x.peak(0, 0), 1);
                due.is("its ways", x.ways(0, -1), 1);
                seen.add(code);
            }
            due.is("how many of " + n, seen.size(), x.rows());
        }
    }

    private static void refusals() {
        PitchRows x = Due.with("c2;p01;k1-");
        due.is("peak(2, 3)", x.peak(2, 3), PitchRows.UNKNOWN);
        due.is("peak(-1, 0)", x.peak(-1, 0), PitchRows.UNKNOWN);
        due.is("peak(0, 3)", x.peak(0, 3), PitchRows.OUTSIDE);
        due.is("peak(0, -1)", x.peak(0, -1), PitchRows.OUTSIDE);
        due.is("clash(2, 0)", x.clash(2, 0), PitchRows.UNKNOWN);
        due.is("clash(0, 2)", x.clash(0, 2), PitchRows.UNKNOWN);
        due.is("clash(-1, 0)", x.clash(-1, 0), PitchRows.UNKNOWN);
        due.is("clash(0, -1)", x.clash(0, -1), PitchRows.UNKNOWN);
        due.is("ways(2, 6)", x.ways(2, 6), PitchRows.UNKNOWN);
        due.is("ways(-1, 0)", x.ways(-1, 0), PitchRows.UNKNOWN);
        due.is("ways(0, 6)", x.ways(0, 6), PitchRows.OUTSIDE);
        due.is("ways(0, -2)", x.ways(0, -2), PitchRows.OUTSIDE);
        due.is("ways(0, 5)", x.ways(0, 5), PitchRows.NONE);
        due.is("next(2, 6)", x.next(2, 6), PitchRows.UNKNOWN);
        due.is("next(-1, 0)", x.next(-1, 0), PitchRows.UNKNOWN);
        due.is("next(1, 6)", x.next(1, 6), PitchRows.OUTSIDE);
        due.is("next(1, -1)", x.next(1, -1), PitchRows.OUTSIDE);
        due.is("next(1, 5)", x.next(1, 5), PitchRows.STATE);
        due.is("next(0, 5)", x.next(0, 5), PitchRows.NONE);
        due.is("next(0, 1)", x.next(0, 1), 0);
    }
}
