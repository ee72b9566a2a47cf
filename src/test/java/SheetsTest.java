/** Promises 22 to 32: sheet, lose, put, cell, copy, tell, hail, as, trace, fault, many. */
public final class SheetsTest {
    private static final Due due = new Due("SheetsTest");
    private static final int MIN = Integer.MIN_VALUE;
    private static final int MAX = Integer.MAX_VALUE;

    public static void main(String[] args) {
        newRows();
        losing();
        putting();
        whatCellsHold();
        copying();
        copyingOntoItself();
        faultsOfCopy();
        telling();
        hailing();
        kindsOfKinds();
        theTraceWraps();
        theLatestFault();
        howMany();
        due.end();
    }

    private static void newRows() {
        PitchRows x = new PitchRows();
        due.is("sheet(4, 3, 61)", x.sheet(4, 3, 61), PitchRows.UNKNOWN);
        due.is("sheet(-1, 0, 1)", x.sheet(-1, 0, 1), PitchRows.UNKNOWN);
        due.is("sheet(0, 3, -1)", x.sheet(0, 3, -1), PitchRows.OUTSIDE);
        due.is("sheet(0, -1, -1)", x.sheet(0, -1, -1), PitchRows.OUTSIDE);
        due.is("sheet(0, 0, 61)", x.sheet(0, 0, 61), PitchRows.OUTSIDE);
        due.is("sheet(0, 0, MAX)", x.sheet(0, 0, MAX), PitchRows.OUTSIDE);
        due.is("sheet(0, 0, -1)", x.sheet(0, 0, -1), -14);
        due.is("fault()", x.fault(), 4);
        due.is("sheet(0, 0, MIN)", x.sheet(0, 0, MIN), -14);
        due.is("it has nothing yet", x.put(0, 0, 0), -11);
        due.is("sheet(0, 0, 60)", x.sheet(0, 0, 60), 1);
        due.is("fault()", x.fault(), 0);
        due.is("put(0, 59, 5)", x.put(0, 59, 5), 1);
        due.is("put(0, 60, 5)", x.put(0, 60, 5), -13);
        due.is("sheet(0, 0, -1)", x.sheet(0, 0, -1), -14);
        due.is("the row stays", x.cell(0, 59, 0), 5);
        due.is("sheet(0, 0, 60)", x.sheet(0, 0, 60), 1);
        due.is("0 at first", x.cell(0, 59, 0), 0);
        due.is("sheet(0, 2, 0)", x.sheet(0, 2, 0), 1);
        due.is("a row of none", x.cell(0, 0, 2), PitchRows.LOST);
        due.is("fault()", x.fault(), 3);
        due.is("of another lane now", x.cell(0, 0, 0), PitchRows.LOST);
        due.is("fault()", x.fault(), 2);
        due.is("a row of none is not nothing", x.lose(0), 1);
        x.sheet(1, 2, 5);
        x.put(1, 4, 7);
        x.sheet(1, 2, 3);
        x.sheet(1, 2, 5);
        due.is("a longer row behind a shorter one", x.cell(1, 4, 2), 0);
    }

    private static void losing() {
        PitchRows x = new PitchRows();
        due.is("lose(3)", x.lose(3), 0);
        x.sheet(3, 1, 2);
        x.put(3, 2, 0);
        due.is("lose(3)", x.lose(3), 1);
        due.is("lose leaves the fault", x.fault(), 3);
        due.is("lose(3)", x.lose(3), 0);
        due.is("put(3, 0, 1)", x.put(3, 0, 1), -11);
        due.is("lose(4)", x.lose(4), PitchRows.UNKNOWN);
        due.is("lose(-1)", x.lose(-1), PitchRows.UNKNOWN);
        due.is("lose leaves the fault", x.fault(), 1);
        due.is("others have nothing", x.lose(2), 0);
    }

    private static void putting() {
        PitchRows x = new PitchRows();
        due.is("put(4, 0, 0)", x.put(4, 0, 0), PitchRows.UNKNOWN);
        due.is("put(-1, 0, 0)", x.put(-1, 0, 0), PitchRows.UNKNOWN);
        due.is("fault()", x.fault(), 0);
        due.is("put(0, -1, 0)", x.put(0, -1, 0), -11);
        due.is("fault()", x.fault(), 1);
        x.sheet(0, 0, 3);
        due.is("put(0, -1, 0)", x.put(0, -1, 0), -13);
        due.is("fault()", x.fault(), 3);
        due.is("put(0, 3, 0)", x.put(0, 3, 0), -13);
        due.is("put(0, MAX, 0)", x.put(0, MAX, 0), -13);
        due.is("put(0, MIN, 0)", x.put(0, MIN, 0), -13);
        due.is("put(0, 2, 9)", x.put(0, 2, 9), 1);
        due.is("fault()", x.fault(), 0);
        due.is("cell(0, 2, 0)", x.cell(0, 2, 0), 9);
        due.is("cell(0, 1, 0)", x.cell(0, 1, 0), 0);
        x.put(0, 7, 9);
        x.put(4, 0, 0);
        due.is("fault() of a refused one", x.fault(), 0);
    }

    private static void whatCellsHold() {
        int[] numbers = {127, 128, 255, 256, -129, 32767, 32768, 65536, -32769, MIN, MAX};
        PitchRows x = new PitchRows();
        for (int lane = 0; lane <= 2; lane++) {
            x.sheet(lane, lane, 1);
            for (int v : numbers) {
                x.put(lane, 0, v);
                long want = lane == 0 ? (byte) v : lane == 1 ? (short) v : v;
                due.is("lane " + lane + " holds " + v, x.cell(lane, 0, lane), want);
            }
        }
        due.is("cell(4, 0, 0)", x.cell(4, 0, 0), PitchRows.LOST);
        due.is("fault()", x.fault(), 0);
        due.is("cell(0, 1, 0)", x.cell(0, 1, 0), PitchRows.LOST);
        due.is("fault()", x.fault(), 3);
        due.is("cell(0, 0, 3)", x.cell(0, 0, 3), PitchRows.LOST);
        due.is("fault()", x.fault(), 0);
        due.is("cell(0, -1, 1)", x.cell(0, -1, 1), PitchRows.LOST);
        due.is("fault()", x.fault(), 2);
        due.is("cell(3, -1, 1)", x.cell(3, -1, 1), PitchRows.LOST);
        due.is("fault()", x.fault(), 1);
        due.is("cell(-1, 0, 0)", x.cell(-1, 0, 0), PitchRows.LOST);
        due.is("fault()", x.fault(), 0);
        due.is("cell(0, -1, 0)", x.cell(0, -1, 0), PitchRows.LOST);
        due.is("fault()", x.fault(), 3);
        due.is("cell(0, 0, -1)", x.cell(0, 0, -1), PitchRows.LOST);
        due.is("fault()", x.fault(), 0);
        x.put(3, 0, 0);
        due.is("cell(2, 0, 2)", x.cell(2, 0, 2), MAX);
        due.is("fault()", x.fault(), 0);
    }

    private static long[] cellsOf(PitchRows x, int k, int n) {
        long[] cells = new long[n];
        for (int i = 0; i < n; i++) {
            cells[i] = x.cell(k, i, 2);
        }
        return cells;
    }

    private static void copying() {
        PitchRows x = new PitchRows();
        Due.cells(x, 0, 1, 2, 3, 4);
        Due.cells(x, 1, 5, 6, 7);
        due.is("copy(0, 1, 1, 0, 2)", x.copy(0, 1, 1, 0, 2), 2);
        due.row("sheet 1", cellsOf(x, 1, 3), 2, 3, 7);
        due.row("sheet 0", cellsOf(x, 0, 4), 1, 2, 3, 4);
        due.is("copy(1, 2, 0, 3, 1)", x.copy(1, 2, 0, 3, 1), 1);
        due.row("sheet 0", cellsOf(x, 0, 4), 1, 2, 3, 7);
        due.is("copy(0, 4, 1, 3, 0)", x.copy(0, 4, 1, 3, 0), 0);
        x.put(0, 0, 50);
        due.is("a copy stands by itself", x.cell(1, 0, 2), 2);
    }

    private static void copyingOntoItself() {
        PitchRows x = new PitchRows();
        Due.cells(x, 0, 1, 2, 3, 4);
        due.is("copy(0, 0, 0, 1, 3)", x.copy(0, 0, 0, 1, 3), 3);
        due.row("sheet 0", cellsOf(x, 0, 4), 1, 1, 2, 3);
        due.is("copy(0, 1, 0, 0, 3)", x.copy(0, 1, 0, 0, 3), 3);
        due.row("sheet 0", cellsOf(x, 0, 4), 1, 2, 3, 3);
    }

    private static void faultsOfCopy() {
        PitchRows x = new PitchRows();
        Due.cells(x, 0, 1, 2, 3, 4);
        Due.cells(x, 1, 5, 6);
        Due.write(x, 2, 0, "abcd");
        due.is("copy(4, 0, 3, 0, -1)", x.copy(4, 0, 3, 0, -1), PitchRows.UNKNOWN);
        due.is("copy(3, 0, 4, 0, -1)", x.copy(3, 0, 4, 0, -1), PitchRows.UNKNOWN);
        due.is("copy(-1, 0, 0, 0, 0)", x.copy(-1, 0, 0, 0, 0), PitchRows.UNKNOWN);
        due.is("copy(0, 0, -1, 0, 0)", x.copy(0, 0, -1, 0, 0), PitchRows.UNKNOWN);
        due.is("copy(3, 0, 0, 0, -1)", x.copy(3, 0, 0, 0, -1), -11);
        due.is("copy(0, 0, 3, 0, -1)", x.copy(0, 0, 3, 0, -1), -11);
        due.is("fault()", x.fault(), 1);
        due.is("copy(0, 0, 2, 0, -1)", x.copy(0, 0, 2, 0, -1), -12);
        due.is("copy(2, 0, 0, 0, 0)", x.copy(2, 0, 0, 0, 0), -12);
        due.is("fault()", x.fault(), 2);
        int[][] beyond = {{0, 0, -1}, {-1, 0, 1}, {0, -1, 1}, {5, 0, 0}, {0, 3, 0}, {-1, 0, 0}, {0, -1, 0},
            {3, 0, 2}, {0, 1, 2}, {0, 0, 3}, {MAX, 0, 1}, {0, MAX, 1}, {1, 1, MAX}, {MIN, 0, 1}, {0, 0, MIN}};
        for (int[] b : beyond) {
            due.is("copy(0, " + b[0] + ", 1, " + b[1] + ", " + b[2] + ")", x.copy(0, b[0], 1, b[1], b[2]), -13);
            due.is("fault()", x.fault(), 3);
        }
        due.row("sheet 1", cellsOf(x, 1, 2), 5, 6);
        due.is("copy(0, 2, 1, 0, 2)", x.copy(0, 2, 1, 0, 2), 2);
        due.is("fault()", x.fault(), 0);
    }

    private static int traceOf(int before, int... bodies) {
        int trace = before;
        for (int body : bodies) {
            trace = 31 * trace + body;
        }
        return trace;
    }

    private static void telling() {
        PitchRows x = Due.with("c4;p01-3;b---3;k0123;k----");
        due.is("tell(0)", x.tell(0), 3);
        int trace = traceOf(0, 1);
        due.is("trace()", x.trace(), trace);
        due.is("tell(1)", x.tell(1), 101);
        trace = traceOf(trace, 2, 1);
        due.is("trace()", x.trace(), trace);
        due.is("tell(2)", x.tell(2), 108);
        trace = traceOf(trace, 3, 2, 1, 1);
        due.is("trace()", x.trace(), trace);
        due.is("tell(3)", x.tell(3), 100);
        trace = traceOf(trace, 3, 2, 1, 1);
        due.is("trace()", x.trace(), trace);
        due.is("tell(4)", x.tell(4), PitchRows.UNKNOWN);
        due.is("tell(-1)", x.tell(-1), PitchRows.UNKNOWN);
        due.is("trace()", x.trace(), trace);
    }

    private static void hailing() {
        PitchRows x = Due.with("c2;k01;b--;p00;b10");
        int trace = 0;
        int[] want = {60, 1, 2, 3};
        for (int k = 0; k < 4; k++) {
            due.is("hail(" + k + ")", x.hail(k), want[k]);
            trace = traceOf(trace, k == 0 ? 5 : 4);
            due.is("trace()", x.trace(), trace);
        }
        due.is("hail(4)", x.hail(4), PitchRows.UNKNOWN);
        due.is("hail(-1)", x.hail(-1), PitchRows.UNKNOWN);
        due.is("trace()", x.trace(), trace);
    }

    private static void kindsOfKinds() {
        PitchRows x = Due.with("c2;p01;b01;k01");
        for (int k = 0; k < 3; k++) {
            for (int kind = 0; kind < 3; kind++) {
                boolean isOne = kind <= k;
                due.is("as(" + k + ", " + kind + ")", x.as(k, kind), isOne ? 1 : -12);
                due.is("fault()", x.fault(), isOne ? 0 : 2);
            }
        }
        x.as(0, 2);
        due.is("as(3, 3)", x.as(3, 3), PitchRows.UNKNOWN);
        due.is("fault()", x.fault(), 0);
        due.is("as(-1, 0)", x.as(-1, 0), PitchRows.UNKNOWN);
        x.as(0, 2);
        due.is("as(0, 3)", x.as(0, 3), PitchRows.OUTSIDE);
        due.is("fault()", x.fault(), 0);
        due.is("as(2, -1)", x.as(2, -1), PitchRows.OUTSIDE);
        due.is("trace()", x.trace(), 0);
    }

    private static void theTraceWraps() {
        PitchRows x = Due.with("c2;p01;b01;k01");
        int trace = 0;
        for (int round = 0; round < 20; round++) {
            x.tell(2);
            x.hail(round % 3);
            trace = traceOf(trace, 3, 2, 1, 1, round % 3 == 2 ? 5 : 4);
            due.is("trace() in round " + round, x.trace(), trace);
        }
    }

    /** A call that names faults sets fault() anew; another one leaves it. */
    private static void theLatestFault() {
        PitchRows x = Due.with("c2;p01;b1-");
        x.as(0, 1);
        x.ofCaller(0, 0);
        x.tune(0, 0, 0);
        x.hears(0, 0, 0, 0);
        x.send(0, 0, 0);
        x.unsend(1);
        x.air(0);
        x.listen(0, 0);
        x.loudest(0, 0);
        x.peak(0, 0);
        x.clash(0, 0);
        x.rows();
        x.ways(0, 0);
        x.next(0, 0);
        x.reading(0, 0, 0, 0, 0);
        x.back(1);
        x.kinds(0);
        x.pitches(0, 0);
        x.odds(0, 0, 0);
        x.lose(0);
        x.tell(0);
        x.hail(0);
        x.trace();
        x.many(0);
        x.many(9);
        x.next(1, 0);
        x.send(9, 0, 0);
        due.is("fault()", x.fault(), 2);
        due.is("fault() once more", x.fault(), 2);
        x.as(0, 0);
        due.is("fault()", x.fault(), 0);
        x.as(0, 1);
        x.sheet(0, 0, 1);
        due.is("fault() behind sheet", x.fault(), 0);
        x.as(0, 1);
        x.put(0, 0, 1);
        due.is("fault() behind put", x.fault(), 0);
        x.as(0, 1);
        x.cell(0, 0, 0);
        due.is("fault() behind cell", x.fault(), 0);
        x.as(0, 1);
        x.copy(0, 0, 0, 0, 1);
        due.is("fault() behind copy", x.fault(), 0);
        x.as(0, 1);
        x.day(0, 0, 0, 0, 0);
        due.is("fault() behind day", x.fault(), 0);
        x.as(0, 1);
        x.callers(0, 0, 0, 1);
        due.is("fault() behind callers", x.fault(), 0);
        x.as(0, 1);
        x.copy(0, 0, 4, 0, 1);
        due.is("fault() behind a refused copy", x.fault(), 0);
        x.as(0, 1);
        x.sheet(0, 3, 1);
        due.is("fault() behind a refused sheet", x.fault(), 0);
    }

    private static void howMany() {
        PitchRows x = Due.with("c5;p0-2-4;k01---");
        x.send(0, 0, 0);
        x.send(0, 0, 0);
        x.send(1, 0, 0);
        x.reading(0, 0, 0, 0, 0);
        int[] want = {2, 5, 3, 5, 1};
        for (int what = 0; what < 5; what++) {
            due.is("many(" + what + ")", x.many(what), want[what]);
        }
        due.is("many(5)", x.many(5), PitchRows.OUTSIDE);
        due.is("many(-1)", x.many(-1), PitchRows.OUTSIDE);
        due.is("new many(5)", new PitchRows().many(5), PitchRows.OUTSIDE);
    }
}
