/** Promises 6 to 11: send, unsend, air, listen, loudest, day. */
public final class AirTest {
    private static final Due due = new Due("AirTest");

    public static void main(String[] args) {
        sending();
        takingBack();
        whatSounds();
        callsAsTheyAreNow();
        listeningOfKinds();
        listeningFromMoments();
        theLoudest();
        daysThatCanBe();
        whatADayAnswers();
        actsThatCanNotBe();
        aDayChangesNothing();
        pairsThatAreNoActs();
        refusalsAndFaultsOfDay();
        due.end();
    }

    private static void sending() {
        PitchRows x = Due.with("c2;p01;b1-");
        due.is("send(2, 21, 0)", x.send(2, 21, 0), PitchRows.UNKNOWN);
        due.is("send(-1, 0, 0)", x.send(-1, 0, 0), PitchRows.UNKNOWN);
        due.is("send(0, 21, 0)", x.send(0, 21, 0), PitchRows.OUTSIDE);
        due.is("send(0, -1, 0)", x.send(0, -1, 0), PitchRows.OUTSIDE);
        due.is("send(0, 0, 6)", x.send(0, 0, 6), PitchRows.OUTSIDE);
        due.is("send(0, 0, -1)", x.send(0, 0, -1), PitchRows.OUTSIDE);
        due.is("many(2)", x.many(2), 0);
        for (int m = 0; m < 8; m++) {
            due.is("send " + m, x.send(m % 2, m == 7 ? 20 : m, m == 7 ? 5 : 0), m);
            due.is("many(2)", x.many(2), m + 1);
        }
        due.is("a ninth", x.send(0, 0, 0), PitchRows.FULL);
        due.is("a ninth, outside", x.send(0, 21, 0), PitchRows.OUTSIDE);
        due.is("a ninth, unknown", x.send(2, 0, 0), PitchRows.UNKNOWN);
        due.is("many(2)", x.many(2), 8);
        due.is("new send(0, 0, 0)", new PitchRows().send(0, 0, 0), PitchRows.UNKNOWN);
    }

    private static void takingBack() {
        PitchRows x = new PitchRows();
        due.is("new unsend(0)", x.unsend(0), 0);
        due.is("new unsend(1)", x.unsend(1), PitchRows.OUTSIDE);
        x = Due.with("c2;p01");
        x.send(0, 0, 0);
        x.send(0, 5, 0);
        x.send(0, 10, 0);
        due.is("unsend(-1)", x.unsend(-1), PitchRows.OUTSIDE);
        due.is("unsend(4)", x.unsend(4), PitchRows.OUTSIDE);
        due.is("unsend(0)", x.unsend(0), 3);
        due.is("unsend(2)", x.unsend(2), 1);
        due.is("air(0)", x.air(0), 1);
        due.is("air(5)", x.air(5), 0);
        due.is("air(10)", x.air(10), 0);
        due.is("the next number", x.send(0, 7, 1), 1);
        due.is("air(7)", x.air(7), 2);
        due.is("unsend(2)", x.unsend(2), 0);
        due.is("air(0)", x.air(0), 0);
    }

    private static void whatSounds() {
        PitchRows x = Due.with("c6;p012345;k5-4-3-");
        due.is("air(0) of nothing", x.air(0), 0);
        x.send(0, 20, 5);
        for (int i = 0; i < 6; i++) {
            due.is("air(20 and " + i + ")", x.air(20 + i), 1 << (5 + i));
        }
        due.is("air(19)", x.air(19), 0);
        x.send(1, 19, 0);
        due.is("air(19)", x.air(19), 32);
        due.is("air(20)", x.air(20), 32);
        due.is("air(21)", x.air(21), 64 + 16);
        due.is("air(22)", x.air(22), 128);
        due.is("air(23)", x.air(23), 256 + 8);
        x.send(0, 19, 5);
        due.is("the same twice", x.air(19), 32);
        due.is("air(20)", x.air(20), 32 + 64);
        due.is("air(25)", x.air(25), 1024);
        due.is("air(26)", x.air(26), PitchRows.OUTSIDE);
        due.is("air(-1)", x.air(-1), PitchRows.OUTSIDE);
        due.is("new air(26)", new PitchRows().air(26), PitchRows.OUTSIDE);
        due.is("new air(25)", new PitchRows().air(25), PitchRows.STATE);
    }

    private static void callsAsTheyAreNow() {
        PitchRows x = Due.with("c2;p01");
        x.send(0, 3, 2);
        due.is("air(3)", x.air(3), 4);
        x.tune(0, 0, 1);
        due.is("air(3) tuned", x.air(3), 8);
        x.tune(0, 0, -1);
        due.is("air(3) free", x.air(3), 0);
        due.is("air(4)", x.air(4), 8);
    }

    private static void listeningOfKinds() {
        PitchRows x = Due.with("c2;p1-;b1-;k1-;p0-");
        // moment 3 j: what sounds beside, the same, both, both sides, nothing
        x.send(3, 0, 0);
        x.send(3, 3, 1);
        x.send(3, 6, 0);
        x.send(3, 6, 1);
        x.send(3, 9, 0);
        x.send(3, 9, 2);
        x.send(3, 12, 3);
        int[][] want = {{0, 1, 1, 0, 0}, {1, 1, 1, 1, 0}, {1, 2, 2, 1, 0}};
        for (int k = 0; k < 3; k++) {
            for (int j = 0; j < 5; j++) {
                due.is("listen(" + k + ", " + 3 * j + ")", x.listen(k, 3 * j), want[k][j]);
            }
        }
        due.is("own 0, what sounds is 1", x.listen(3, 3), 0);
        x.tune(1, 0, 0);
        due.is("own 0, broad, 1 sounds", x.listen(1, 3), 1);
        x.tune(1, 0, -1);
        due.is("a free beat counts nothing", x.listen(1, 0), 0);
    }

    private static void listeningFromMoments() {
        PitchRows x = Due.with("c6;p012345;k012345");
        x.send(0, 20, 0);
        due.is("listen(0, 20)", x.listen(0, 20), 6);
        due.is("listen(1, 20)", x.listen(1, 20), 12);
        due.is("listen(1, 19)", x.listen(1, 19), 5);
        due.is("listen(1, 21)", x.listen(1, 21), 5);
        due.is("listen(1, 24)", x.listen(1, 24), 0);
        x.tune(1, 0, 5);
        due.is("listen(1, 25)", x.listen(1, 25), 2);
        due.is("listen(1, 24)", x.listen(1, 24), 1);
        due.is("listen(0, 0)", x.listen(0, 0), 0);
        due.is("listen(2, 26)", x.listen(2, 26), PitchRows.UNKNOWN);
        due.is("listen(-1, 0)", x.listen(-1, 0), PitchRows.UNKNOWN);
        due.is("listen(0, 26)", x.listen(0, 26), PitchRows.OUTSIDE);
        due.is("listen(0, -1)", x.listen(0, -1), PitchRows.OUTSIDE);
    }

    private static void theLoudest() {
        PitchRows x = Due.with("c3;p021;k---;p2--");
        due.is("nothing sounds: when", x.loudest(0, 0), 0);
        due.is("nothing sounds: how much", x.loudest(0, 1), 0);
        x.send(0, 9, 0);
        x.send(0, 4, 0);
        due.is("the first of two", x.loudest(0, 0), 4);
        due.is("how much", x.loudest(0, 1), 3);
        due.is("of a free call: when", x.loudest(1, 0), 0);
        due.is("of a free call: how much", x.loudest(1, 1), 0);
        due.is("of its first beat: when", x.loudest(2, 0), 5);
        due.is("of its first beat: how much", x.loudest(2, 1), 1);
        x.unsend(2);
        x.send(2, 20, 0);
        x.tune(2, 0, -1);
        x.tune(2, 2, 0);
        x.tune(0, 0, 0);
        due.is("moment 22", x.loudest(0, 0), 22);
        PitchRows last = Due.with("c6;p-----5;p5-----");
        last.send(0, 20, 0);
        due.is("moment 25", last.loudest(1, 0), 25);
        due.is("how much from there on", last.loudest(1, 1), 1);
        due.is("loudest(3, 2)", x.loudest(3, 2), PitchRows.UNKNOWN);
        due.is("loudest(-1, 0)", x.loudest(-1, 0), PitchRows.UNKNOWN);
        due.is("loudest(0, 2)", x.loudest(0, 2), PitchRows.OUTSIDE);
        due.is("loudest(0, -1)", x.loudest(0, -1), PitchRows.OUTSIDE);
    }

    private static void daysThatCanBe() {
        PitchRows x = Due.with("c2;p01;b1-;k--;p11");
        Due.cells(x, 0, 77, 0, 0, 20, 3, 2, 9, 0, 9, 5, 1, 5, 2);
        int[] sendings = {0, 1, 2, 0, 0, 1, 2};
        for (int n = 0; n < sendings.length; n++) {
            due.is("day of " + n, x.day(0, 2, 1, n, 0), sendings[n]);
            due.is("first wrong of " + n, x.day(0, 2, 1, n, 1), PitchRows.NONE);
        }
        x.send(3, 8, 4);
        for (int n = 0; n < 4; n++) {
            due.is("day of " + n + " and one that was", x.day(0, 2, 1, n, 0), 1 + sendings[n]);
        }
        Due.cells(x, 1, 0, 0, 1, 0, 2, 0, 3, 0, 4, 0, 5, 0, 6, 0, 8, 9, 8, 9);
        due.is("eight taken back", x.day(1, 2, 0, 8, 0), 0);
        due.is("eight once more", x.day(1, 2, 0, 9, 1), 8);
        Due.cells(x, 2, 3, 1, 99, 99);
        due.is("what is behind is none of it", x.day(2, 2, 0, 1, 0), 2);
        due.is("what is behind is none of it", x.day(2, 2, 0, 2, 0), PitchRows.OUTSIDE);
    }

    private static void whatADayAnswers() {
        PitchRows x = Due.with("c3;p0-2;k01-;p---");
        due.is("no moments", Due.day(x, 2), 0);
        due.is("no last", Due.day(x, 3), PitchRows.NONE);
        due.is("no two", Due.day(x, 4), PitchRows.NONE);
        due.is("nothing to listen to", Due.day(x, 10), 0);
        due.is("no caller 3", Due.day(x, 13), PitchRows.NONE);
        due.is("moments of one", Due.day(x, 2, 4, 0), 2);
        due.is("last of one", Due.day(x, 3, 4, 0), 6);
        due.is("the latest", Due.day(x, 3, 20, 0), 22);
        due.is("moments of two", Due.day(x, 2, 4, 0, 5, 1), 3);
        due.is("moments of two at once", Due.day(x, 2, 4, 0, 4, 1), 3);
        due.is("the same pitch is not two", Due.day(x, 4, 4, 0, 4, 1), PitchRows.NONE);
        due.is("two pitches", Due.day(x, 4, 4, 0, 5, 1), 6);
        due.is("two pitches, the first", Due.day(x, 4, 10, 0, 11, 1, 4, 0, 5, 1), 6);
        due.is("plain listens", Due.day(x, 10, 4, 0), 2);
        due.is("keen listens", Due.day(x, 11, 4, 0), 2);
        due.is("keen listens to itself", Due.day(x, 11, 4, 1), 4);
        due.is("one of a free call listens", Due.day(x, 12, 4, 0), 0);
        due.is("a free call is sent", Due.day(x, 0, 4, 2), 1);
        due.is("a free call does not sound", Due.day(x, 2, 4, 2), 0);
        x.send(0, 0, 5);
        due.is("what was sent sounds", Due.day(x, 3), 2);
        due.is("higher", Due.day(x, 4, 0, 0), 0);
        x.send(1, 10, 0);
        x.send(2, 20, 0);
        due.is("three that were sent", Due.day(x, 2), 4);
        due.is("the last of what was sent", Due.day(x, 3), 11);
        due.is("keen listens to what was sent", Due.day(x, 11), 4);
        due.is("plain does", Due.day(x, 10), 1);
        PitchRows edges = Due.with("c6;p0-----;p-----1;p-----5");
        due.is("the last is moment 0", Due.day(edges, 3, 0, 0), 0);
        due.is("the last is moment 25", Due.day(edges, 3, 20, 1), 25);
        due.is("two in moment 25", Due.day(edges, 4, 20, 1, 20, 2), 25);
        due.is("moments", Due.day(edges, 2, 20, 1, 0, 0), 2);
    }

    private static void actsThatCanNotBe() {
        PitchRows x = Due.with("c2;p01;p10");
        int[] whats = {0, 2, 3, 4, 10, 11, 12, 13};
        for (int what : whats) {
            due.is("no such caller " + what, Due.day(x, what, 0, 0, 0, 2), -101);
            due.is("not so many " + what, Due.day(x, what, 1, 9), -100);
        }
        due.is("no such caller", Due.day(x, 1, 0, 0, 0, 2), 1);
        due.is("caller 3", Due.day(x, 1, 0, 3), 0);
        due.is("not so many", Due.day(x, 1, 0, 0, 2, 9, 0, 2), 1);
        due.is("as many", Due.day(x, 1, 0, 0, 1, 9), PitchRows.NONE);
        int[] nine = {0, 0, 1, 1, 2, 0, 3, 1, 4, 0, 5, 1, 6, 0, 7, 1, 0, 9, 8, 0};
        due.is("a ninth", Due.day(x, 1, nine), 9);
        due.is("a ninth", Due.day(x, 0, nine), -109);
        due.is("fault()", x.fault(), 0);
        for (int m = 0; m < 6; m++) {
            x.send(0, 0, 0);
        }
        due.is("a ninth by what was sent", Due.day(x, 1, nine), 2);
    }

    private static void aDayChangesNothing() {
        PitchRows x = Due.with("c2;p01;p10");
        x.send(0, 3, 1);
        x.send(1, 4, 0);
        due.is("a day", Due.day(x, 0, 2, 9, 0, 0, 1, 1, 2, 1), 3);
        due.is("a day that can't be", Due.day(x, 0, 2, 9, 0, 0, 9 - 1, 9), -102);
        due.is("many(2)", x.many(2), 2);
        due.is("air(0)", x.air(0), 0);
        due.is("air(3)", x.air(3), 2);
        due.is("air(4)", x.air(4), 4 + 2);
        due.is("air(5)", x.air(5), 1);
        x.unsend(1);
        due.is("air(4)", x.air(4), 4);
    }

    private static void pairsThatAreNoActs() {
        PitchRows x = Due.with("c2;p01;p10");
        due.is("second 4", Due.day(x, 1, 0, 4), PitchRows.OUTSIDE);
        due.is("second 8", Due.day(x, 1, 0, 8), PitchRows.OUTSIDE);
        due.is("second 10", Due.day(x, 1, 0, 10), PitchRows.OUTSIDE);
        due.is("second -1", Due.day(x, 1, 0, -1), PitchRows.OUTSIDE);
        due.is("moment 21", Due.day(x, 1, 21, 0), PitchRows.OUTSIDE);
        due.is("moment -1", Due.day(x, 1, -1, 0), PitchRows.OUTSIDE);
        due.is("moment 21 of no caller", Due.day(x, 1, 21, 3), PitchRows.OUTSIDE);
        due.is("moment 20 of no caller", Due.day(x, 1, 20, 3), 0);
        due.is("nine taken back", Due.day(x, 1, 9, 9), PitchRows.OUTSIDE);
        due.is("eight taken back", Due.day(x, 1, 8, 9), 0);
        due.is("-1 taken back", Due.day(x, 1, -1, 9), PitchRows.OUTSIDE);
        due.is("behind one that can't be", Due.day(x, 1, 1, 9, 0, 4), PitchRows.OUTSIDE);
        due.is("behind one that can't be", Due.day(x, 0, 1, 9, 21, 0), PitchRows.OUTSIDE);
        x.day(0, 2, 5, 1, 0);
        due.is("fault()", x.fault(), 3);
        Due.day(x, 0, 0, 4);
        due.is("fault()", x.fault(), 0);
    }

    private static void refusalsAndFaultsOfDay() {
        PitchRows x = new PitchRows();
        x.sheet(0, 0, 40);
        due.is("day(4, 3, 0, 0, 0)", x.day(4, 3, 0, 0, 0), PitchRows.UNKNOWN);
        due.is("day(-1, 0, 0, 0, 0)", x.day(-1, 0, 0, 0, 0), PitchRows.UNKNOWN);
        int[][] outside = {{3, 0, 0}, {-1, 0, 0}, {0, -1, 0}, {0, 21, 0}, {0, 0, -1}, {0, 0, 5},
            {0, 0, 9}, {0, 0, 14}, {0, Integer.MIN_VALUE, 0}, {0, Integer.MAX_VALUE, 0}};
        for (int[] o : outside) {
            due.is("day(0, " + o[0] + ", 0, " + o[1] + ", " + o[2] + ")",
                    x.day(0, o[0], 0, o[1], o[2]), PitchRows.OUTSIDE);
        }
        due.is("no callers, cast", x.day(0, 1, 99, 0, 0), PitchRows.STATE);
        due.is("no callers, null", x.day(1, 1, 0, 0, 0), PitchRows.STATE);
        Due.told(x, "c2;p01");
        due.is("cast", x.day(0, 1, 99, 0, 0), -12);
        due.is("fault()", x.fault(), 2);
        due.is("null", x.day(1, 1, 99, 0, 0), -11);
        due.is("fault()", x.fault(), 1);
        due.is("index", x.day(0, 0, 41, 0, 0), -13);
        due.is("fault()", x.fault(), 3);
        due.is("index -1", x.day(0, 0, -1, 0, 0), -13);
        due.is("index MAX", x.day(0, 0, Integer.MAX_VALUE, 20, 0), -13);
        due.is("40 cells from 1 on", x.day(0, 0, 1, 20, 0), -13);
        due.is("38 cells from 3 on", x.day(0, 0, 3, 19, 0), -13);
        due.is("40 cells from 0 on: a ninth", x.day(0, 0, 0, 20, 1), 8);
        due.is("fault()", x.fault(), 0);
        due.is("none from 40 on", x.day(0, 0, 40, 0, 0), 0);
        x.day(0, 0, -1, 0, 0);
        x.day(0, 0, -1, 21, 0);
        due.is("fault() of a refused one", x.fault(), 0);
    }
}
