/** The boundary cases of promises 22 to 32, each with the sentence that names it. */
public final class Edges5SheetsTest {
    private static final Due due = new Due("Edges5SheetsTest");
    private static final int MIN = Integer.MIN_VALUE, MAX = Integer.MAX_VALUE;
    private static final int UNKNOWN = PitchRows.UNKNOWN, OUTSIDE = PitchRows.OUTSIDE;
    private static final long LOST = PitchRows.LOST;
    private static final int IS_NULL = -11, CAST = -12, INDEX = -13, SIZE = -14;

    public static void main(String[] args) {
        Edges.run(Edges5SheetsTest.class, due);
    }

    /** What cell() answers, or the fault that it tells. */
    private static long cellOrFault(PitchRows x, int k, int i, int lane) {
        long cell = x.cell(k, i, lane);
        return cell == LOST ? -10 - x.fault() : cell;
    }

    // ---- promise 22

    @Says({"A SHEET gets a new row: 1.", "SHEETS 0 .. 3 have nothing (at first), or a row of 0 .. 60 numbers (0 at first) of a"
            + " LANE: 0 bytes, 1 shorts, 2 ints;"})
    static void p22_of0AndOf60Numbers() {
        for (int k = 0; k < 4; k++) {
            PitchRows x = new PitchRows();
            int lane = k % 3;
            due.is("nothing at first", cellOrFault(x, k, 0, lane), IS_NULL);
            due.is("of 0", x.sheet(k, lane, 0), 1);
            due.is("it has no cell 0", cellOrFault(x, k, 0, lane), INDEX);
            due.is("it has something", x.lose(k), 1);
            due.is("of 60", x.sheet(k, lane, 60), 1);
            for (int i = 0; i < 60; i++) {
                due.is("cell " + i + " at first", cellOrFault(x, k, i, lane), 0);
            }
            due.is("it has no cell 60", cellOrFault(x, k, 60, lane), INDEX);
        }
    }

    @Says("a row of 0 .. 60 numbers (0 at first)")
    static void p22_aNewRowIs0AtFirst() {
        PitchRows x = new PitchRows();
        Due.cells(x, 0, 1, 2, 3);
        x.sheet(0, 2, 3);
        due.is("as long", cellOrFault(x, 0, 2, 2), 0);
        x.put(0, 2, 9);
        x.sheet(0, 2, 2);
        due.is("shorter", cellOrFault(x, 0, 2, 2), INDEX);
        x.sheet(0, 2, 4);
        due.is("longer", cellOrFault(x, 0, 2, 2), 0);
        x.put(0, 0, 9);
        x.lose(0);
        x.sheet(0, 1, 1);
        due.is("behind nothing", cellOrFault(x, 0, 0, 1), 0);
        due.is("of another lane", cellOrFault(x, 0, 0, 2), CAST);
    }

    @Says("UNKNOWN; OUTSIDE: lane, n above 60; SIZE.")
    static void p22_refusalsAndSize() {
        PitchRows x = new PitchRows();
        Due.cells(x, 0, 5);
        for (int lane : new int[] {-1, 3, MIN, MAX}) {
            due.is("lane " + lane, x.sheet(0, lane, -1), OUTSIDE);
            due.is("lane " + lane + " of no sheet", x.sheet(4, lane, -1), UNKNOWN);
        }
        for (int n : new int[] {61, 62, MAX}) {
            due.is("n " + n, x.sheet(0, 0, n), OUTSIDE);
            due.is("fault()", x.fault(), 0);
            due.is("n " + n + " of no sheet", x.sheet(-1, 0, n), UNKNOWN);
        }
        for (int n : new int[] {-1, -60, MIN}) {
            due.is("n " + n, x.sheet(0, 0, n), SIZE);
            due.is("fault()", x.fault(), 4);
            due.is("n " + n + " of nothing", x.sheet(1, 0, n), SIZE);
        }
        due.is("the row is as it was", cellOrFault(x, 0, 0, 2), 5);
        due.is("what had nothing has nothing", x.lose(1), 0);
    }

    // ---- promise 23

    @Says("A SHEET has nothing: 1; 0: it had nothing. UNKNOWN.")
    static void p23_lose() {
        PitchRows x = new PitchRows();
        for (int k = 0; k < 4; k++) {
            due.is("at first, " + k, x.lose(k), 0);
            x.sheet(k, 0, 0);
            due.is("a row of none, " + k, x.lose(k), 1);
            due.is("once more, " + k, x.lose(k), 0);
            due.is("put to nothing, " + k, x.put(k, 0, 0), IS_NULL);
        }
        x.sheet(1, 0, 1);
        x.sheet(2, 0, 1);
        x.lose(1);
        due.is("others stay", x.put(2, 0, 1), 1);
        for (int k : new int[] {-1, 4, MIN, MAX}) {
            due.is("lose(" + k + ")", x.lose(k), UNKNOWN);
        }
    }

    // ---- promise 24

    @Says({"Cell i of a SHEET becomes v: 1.", "UNKNOWN; NULL; INDEX."})
    static void p24_theFirstAndTheLastCellAndThoseBeside() {
        for (int n : new int[] {1, 2, 60}) {
            PitchRows x = new PitchRows();
            x.sheet(0, 0, n);
            due.is("the first of " + n, x.put(0, 0, 7), 1);
            due.is("it is", cellOrFault(x, 0, 0, 0), 7);
            due.is("the last of " + n, x.put(0, n - 1, 8), 1);
            due.is("it is", cellOrFault(x, 0, n - 1, 0), 8);
            for (int i : new int[] {-1, n, n + 1, MIN, MAX}) {
                due.is("cell " + i + " of " + n, x.put(0, i, 9), INDEX);
                due.is("fault()", x.fault(), 3);
                due.is("cell " + i + " of nothing", x.put(1, i, 9), IS_NULL);
                due.is("cell " + i + " of no sheet", x.put(4, i, 9), UNKNOWN);
            }
        }
        PitchRows x = new PitchRows();
        x.sheet(0, 0, 0);
        due.is("cell 0 of none", x.put(0, 0, 9), INDEX);
    }

    @Says("what comes to a cell of it is cut to its LANE.")
    static void p24_cutToItsLane() {
        int[][] bytes = {{127, 127}, {128, -128}, {-128, -128}, {-129, 127}, {255, -1}, {256, 0}, {MAX, -1}, {MIN, 0}};
        int[][] shorts = {{128, 128}, {32767, 32767}, {32768, -32768}, {-32768, -32768}, {-32769, 32767}, {65535, -1},
            {65536, 0}, {MAX, -1}, {MIN, 0}};
        int[][] ints = {{32768, 32768}, {65536, 65536}, {MAX, MAX}, {MIN, MIN}, {-1, -1}};
        int[][][] all = {bytes, shorts, ints};
        for (int lane = 0; lane <= 2; lane++) {
            PitchRows x = new PitchRows();
            x.sheet(lane, lane, 2);
            for (int[] pair : all[lane]) {
                due.is("put " + pair[0], x.put(lane, 1, pair[0]), 1);
                due.is("lane " + lane + " of " + pair[0], cellOrFault(x, lane, 1, lane), pair[1]);
                due.is("the other cell", cellOrFault(x, lane, 0, lane), 0);
            }
        }
    }

    // ---- promise 25

    @Says({"Cell i of what a SHEET has, taken as a row of a LANE.", "INDEX."})
    static void p25_theFirstAndTheLastCellAndThoseBeside() {
        PitchRows x = new PitchRows();
        Due.cells(x, 0, 11, 12, 13);
        due.is("the first", cellOrFault(x, 0, 0, 2), 11);
        due.is("fault()", x.fault(), 0);
        due.is("the last", cellOrFault(x, 0, 2, 2), 13);
        for (int i : new int[] {-1, 3, 4, 60, MIN, MAX}) {
            due.is("cell " + i, x.cell(0, i, 2), LOST);
            due.is("fault() of " + i, x.fault(), 3);
        }
    }

    @Says({"LOST: UNKNOWN, OUTSIDE: lane; FAULTS CAST (nothing is no CAST), NULL, INDEX.", "OUTSIDE: lane"})
    static void p25_refusalsAndFaultsInTheirOrder() {
        PitchRows x = new PitchRows();
        for (int lane = 0; lane <= 2; lane++) {
            x.sheet(lane, lane, 1);
        }
        for (int has = 0; has <= 2; has++) {
            for (int lane = 0; lane <= 2; lane++) {
                due.is("lane " + has + " as " + lane, cellOrFault(x, has, 0, lane), has == lane ? 0 : CAST);
                due.is("lane " + has + " as " + lane + ", index", cellOrFault(x, has, 1, lane), has == lane ? INDEX : CAST);
            }
        }
        for (int lane = 0; lane <= 2; lane++) {
            due.is("nothing as " + lane, cellOrFault(x, 3, 0, lane), IS_NULL);
            due.is("nothing as " + lane + ", index", cellOrFault(x, 3, -1, lane), IS_NULL);
        }
        for (int far : new int[] {-1, 4, MIN, MAX}) {
            x.put(0, 1, 1);
            due.is("sheet " + far, x.cell(far, 0, 0), LOST);
            due.is("fault()", x.fault(), 0);
        }
        for (int lane : new int[] {-1, 3, MIN, MAX}) {
            x.put(0, 1, 1);
            due.is("lane " + lane, x.cell(3, -1, lane), LOST);
            due.is("fault()", x.fault(), 0);
        }
    }

    // ---- promise 26

    private static PitchRows withRow() {
        PitchRows x = new PitchRows();
        Due.cells(x, 0, 1, 2, 3, 4, 5);
        return x;
    }

    private static void rowIs(String what, PitchRows x, int k, int... want) {
        for (int i = 0; i < want.length; i++) {
            due.is(what + ", cell " + i, cellOrFault(x, k, i, 2), want[i]);
        }
    }

    @Says("n cells of a SHEET from i on go to another one (perhaps the same) from j on, as they were: n.")
    static void p26_cellsThatOverlap() {
        PitchRows x = withRow();
        due.is("one behind", x.copy(0, 0, 0, 1, 4), 4);
        rowIs("one behind", x, 0, 1, 1, 2, 3, 4);
        x = withRow();
        due.is("one ahead", x.copy(0, 1, 0, 0, 4), 4);
        rowIs("one ahead", x, 0, 2, 3, 4, 5, 5);
        x = withRow();
        due.is("two behind", x.copy(0, 0, 0, 2, 3), 3);
        rowIs("two behind", x, 0, 1, 2, 1, 2, 3);
        x = withRow();
        due.is("onto themselves", x.copy(0, 0, 0, 0, 5), 5);
        rowIs("onto themselves", x, 0, 1, 2, 3, 4, 5);
    }

    @Says("as they were: n.")
    static void p26_cellsOfAnotherSheet() {
        PitchRows x = withRow();
        Due.cells(x, 1, 7, 8, MIN);
        due.is("all of it", x.copy(1, 0, 0, 2, 3), 3);
        rowIs("to", x, 0, 1, 2, 7, 8, MIN);
        rowIs("from", x, 1, 7, 8, MIN);
        due.is("the last to the first", x.copy(0, 4, 1, 0, 1), 1);
        rowIs("to", x, 1, MIN, 8, MIN);
        for (int lane = 0; lane <= 1; lane++) {
            x.sheet(2, lane, 2);
            x.sheet(3, lane, 1);
            x.put(2, 1, -7);
            due.is("of lane " + lane, x.copy(2, 1, 3, 0, 1), 1);
            due.is("it is", cellOrFault(x, 3, 0, lane), -7);
        }
    }

    @Says("INDEX: i, j, n below 0 or beyond.")
    static void p26_noCells() {
        PitchRows x = withRow();
        Due.cells(x, 1, 7, 8);
        x.sheet(2, 2, 0);
        for (int i = -1; i <= 6; i++) {
            for (int j = -1; j <= 3; j++) {
                boolean isSo = i >= 0 && i <= 5 && j >= 0 && j <= 2;
                due.is("none from " + i + " to " + j, x.copy(0, i, 1, j, 0), isSo ? 0 : INDEX);
                due.is("fault()", x.fault(), isSo ? 0 : 3);
            }
        }
        due.is("none to a row of none", x.copy(0, 0, 2, 0, 0), 0);
        due.is("one to a row of none", x.copy(0, 0, 2, 0, 1), INDEX);
        due.is("one of a row of none", x.copy(2, 0, 0, 0, 1), INDEX);
        rowIs("as it was", x, 0, 1, 2, 3, 4, 5);
        rowIs("as it was", x, 1, 7, 8);
    }

    @Says("i, j, n below 0 or beyond.")
    static void p26_cellsBeside() {
        PitchRows x = withRow();
        Due.cells(x, 1, 7, 8, 9);
        int[][] beside = {{-1, 0, 1}, {0, -1, 1}, {0, 0, -1}, {5, 0, 1}, {0, 3, 1}, {0, 0, 4}, {3, 0, 3}, {0, 1, 3}, {0, 0, 6},
            {MAX, 0, 1}, {0, MAX, 1}, {0, 0, MAX}, {1, 1, MAX}, {MAX, MAX, MAX}, {MIN, 0, 1}, {0, MIN, 1}, {0, 0, MIN},
            {1, 1, -1}, {5, 3, -1}, {-1, -1, 1}};
        for (int[] b : beside) {
            due.is("copy(0, " + b[0] + ", 1, " + b[1] + ", " + b[2] + ")", x.copy(0, b[0], 1, b[1], b[2]), INDEX);
            due.is("fault()", x.fault(), 3);
        }
        rowIs("as it was", x, 1, 7, 8, 9);
        due.is("just so many", x.copy(0, 2, 1, 0, 3), 3);
        rowIs("the last three", x, 1, 3, 4, 5);
    }

    @Says("UNKNOWN; FAULTS NULL (the first, the other), CAST (unlike LANES), INDEX:")
    static void p26_refusalsAndFaultsInTheirOrder() {
        PitchRows x = withRow();
        x.sheet(1, 0, 5);
        x.sheet(2, 1, 5);
        for (int k : new int[] {-1, 4, MIN, MAX}) {
            due.is("from " + k, x.copy(k, 0, 3, 0, -1), UNKNOWN);
            due.is("to " + k, x.copy(3, 0, k, 0, -1), UNKNOWN);
        }
        due.is("the first has nothing", x.copy(3, 0, 0, 0, -1), IS_NULL);
        due.is("the other has nothing", x.copy(0, 0, 3, 0, -1), IS_NULL);
        due.is("both have nothing", x.copy(3, 0, 3, 0, 0), IS_NULL);
        for (int k = 0; k <= 2; k++) {
            for (int other = 0; other <= 2; other++) {
                due.is("lanes of " + k + " and " + other, x.copy(k, 0, other, 0, 1), k == other ? 1 : CAST);
                due.is("lanes of " + k + " and " + other + ", no cells", x.copy(k, 0, other, 0, 0), k == other ? 0 : CAST);
                due.is("lanes of " + k + " and " + other + ", index", x.copy(k, 9, other, 9, -1), k == other ? INDEX : CAST);
            }
        }
    }

    // ---- promise 27

    private static int left(int trace, int... bodies) {
        int now = trace;
        for (int body : bodies) {
            now = 31 * now + body;
        }
        return now;
    }

    @Says({"TELLING of a CALLER.", "TELLING of CALLERS by bodies that leave their number in TRACE (an int that wraps, 0 at first,"
            + " becomes 31 times it and the number) as they begin:",
        "PLAIN (1): how many of its BEATS are not FREE. BROAD (2): what PLAIN's gives, and 100. KEEN (3): what BROAD's gives,"
            + " and what PLAIN's gives (BROAD's left out)."})
    static void p27_noneAndAllFree() {
        int[] free = {0, 100, 100};
        int[] whole = {6, 106, 112};
        int[][] bodies = {{1}, {2, 1}, {3, 2, 1, 1}};
        String[] kinds = {"p", "b", "k"};
        for (int kind = 0; kind < 3; kind++) {
            PitchRows x = Due.with("c6;" + kinds[kind] + "------;" + kinds[kind] + "012345");
            due.is("0 at first", x.trace(), 0);
            due.is("all free, " + kinds[kind], x.tell(0), free[kind]);
            due.is("trace()", x.trace(), left(0, bodies[kind]));
            due.is("none free, " + kinds[kind], x.tell(1), whole[kind]);
            due.is("trace()", x.trace(), left(left(0, bodies[kind]), bodies[kind]));
        }
    }

    @Says("UNKNOWN.")
    static void p27_unknown() {
        PitchRows x = Due.with("c2;p01");
        x.tell(0);
        for (int k : new int[] {-1, 1, 4, MIN, MAX}) {
            due.is("tell(" + k + ")", x.tell(k), UNKNOWN);
            due.is("trace()", x.trace(), 1);
        }
        due.is("without callers", new PitchRows().tell(0), UNKNOWN);
    }

    // ---- promise 28

    @Says({"How it is HAILED. UNKNOWN.", "HAILED by a lent body (4): its number; KEEN ones have their own (5): 60."})
    static void p28_hailed() {
        String[] kinds = {"p", "b", "k"};
        for (int kind = 0; kind < 3; kind++) {
            PitchRows x = Due.with("c2;p00;p00;p00;p00".replace("p", kinds[kind]));
            int trace = 0;
            for (int k = 0; k < 4; k++) {
                due.is(kinds[kind] + " hail(" + k + ")", x.hail(k), kind == 2 ? 60 : k);
                trace = left(trace, kind == 2 ? 5 : 4);
                due.is("trace()", x.trace(), trace);
            }
            for (int k : new int[] {-1, 4, MIN, MAX}) {
                due.is("hail(" + k + ")", x.hail(k), UNKNOWN);
                due.is("trace()", x.trace(), trace);
            }
        }
        due.is("without callers", new PitchRows().hail(0), UNKNOWN);
    }

    // ---- promise 29

    @Says({"A CALLER, taken as one of a kind: 1.", "CAST: it is none."})
    static void p29_eachAsEach() {
        PitchRows x = Due.with("c2;p01;b01;k01");
        for (int k = 0; k < 3; k++) {
            for (int kind = 0; kind < 3; kind++) {
                due.is("kind " + k + " as " + kind, x.as(k, kind), kind <= k ? 1 : CAST);
                due.is("fault()", x.fault(), kind <= k ? 0 : 2);
                due.is("it is as it was", x.ofCaller(k, 0), k);
            }
        }
    }

    @Says("UNKNOWN; OUTSIDE; CAST: it is none.")
    static void p29_refusals() {
        PitchRows x = Due.with("c2;p01");
        for (int far : new int[] {-1, 3, MIN, MAX}) {
            x.as(0, 2);
            due.is("as(0, " + far + ")", x.as(0, far), OUTSIDE);
            due.is("fault()", x.fault(), 0);
            due.is("as(1, " + far + ")", x.as(1, far), UNKNOWN);
            x.as(0, 2);
            due.is("as(" + far + ", 1)", x.as(far, 1), UNKNOWN);
            due.is("fault()", x.fault(), 0);
        }
        due.is("without callers", new PitchRows().as(0, 0), UNKNOWN);
    }

    // ---- promise 30

    @Says({"TRACE.", "(an int that wraps, 0 at first, becomes 31 times it and the number)"})
    static void p30_theTraceWraps() {
        int[] want = {4, 128, 3972, 123136, 3817220, 118333824, -626618748};
        PitchRows x = Due.with("c2;p01");
        due.is("0 at first", x.trace(), 0);
        // 118333824 times 31 and 4 is 3668348548, which is 4294967296 more than what is left of it
        for (int hails = 0; hails < 7; hails++) {
            x.hail(0);
            due.is("behind " + (hails + 1), x.trace(), want[hails]);
            due.is("asked once more", x.trace(), want[hails]);
        }
    }

    // ---- promise 31

    @Says({"(0 ahead of any).", "The FAULT of the latest call that names one:"})
    static void p31_aheadOfAny() {
        PitchRows x = new PitchRows();
        due.is("of a new object", x.fault(), 0);
        x.ofCaller(0, 0);
        x.lose(0);
        x.rows();
        x.many(9);
        due.is("behind refused calls that name none", x.fault(), 0);
    }

    @Says("0: it came to none, or was refused")
    static void p31_cameToNoneOrWasRefused() {
        PitchRows x = Due.with("c2;p01");
        x.sheet(0, 0, 2);
        long[] none = new long[8];
        for (int call = 0; call < 16; call++) {
            x.as(0, 2);
            due.is("behind a fault", x.fault(), 2);
            boolean isRefused = call >= 8;
            int k = isRefused ? 4 : 0;
            switch (call % 8) {
                case 0 -> none[0] = x.callers(isRefused ? 4 : 3, 1, 0, 6);
                case 1 -> none[1] = x.day(k, 0, 0, 1, 0);
                case 2 -> none[2] = x.sheet(k, 0, 2);
                case 3 -> none[3] = x.put(k, 1, 0);
                case 4 -> none[4] = x.cell(k, 1, 0);
                case 5 -> none[5] = x.copy(0, 0, k, 1, 1);
                case 6 -> none[6] = x.as(isRefused ? 1 : 0, 0);
                default -> none[7] = x.callers(isRefused ? 4 : 0, 0, 0, 2);
            }
            due.is("behind call " + call, x.fault(), 0);
            due.is("once more", x.fault(), 0);
        }
        due.row("all of them were refused", none, -1, -1, -1, -1, LOST, -1, -1, -1);
    }

    @Says("The FAULT of the latest call that names one")
    static void p31_otherCallsLeaveIt() {
        PitchRows x = Due.with("c2;p01");
        x.put(3, 6, 0);
        x.lose(3);
        due.is("behind lose", x.fault(), 3);
        x.lose(4);
        x.tell(0);
        x.hail(1);
        x.trace();
        x.many(0);
        x.send(0, 0, 0);
        x.reading(0, 0, 0, 0, 0);
        x.odds(0, 21, 0);
        x.next(0, 9);
        due.is("behind calls that name none", x.fault(), 3);
        x.put(3, 0, 0);
        due.is("the latest", x.fault(), 1);
        x.sheet(0, 0, -1);
        due.is("the latest", x.fault(), 4);
    }

    // ---- promise 32

    @Says("(0 all without CALLERS).")
    static void p32_withoutCallers() {
        PitchRows x = new PitchRows();
        Due.told(x, "c2;p0");
        for (int what = 0; what <= 4; what++) {
            due.is("many(" + what + ")", x.many(what), 0);
        }
    }

    @Says({"How many: 0 CALLERS, 1 BEATS of each CALL, 2 SENDINGS, 3 FREE BEATS of all, 4 READINGS", "OUTSIDE."})
    static void p32_mostOfAll() {
        PitchRows x = Due.with("c6;p------;b------;k------;p------");
        for (int m = 0; m < 8; m++) {
            x.send(0, 0, 0);
            x.reading(0, 0, 0, 0, 0);
        }
        int[] want = {4, 6, 8, 24, 8};
        for (int what = 0; what <= 4; what++) {
            due.is("many(" + what + ")", x.many(what), want[what]);
        }
        for (int what : new int[] {-1, 5, MIN, MAX}) {
            due.is("many(" + what + ")", x.many(what), OUTSIDE);
            due.is("many(" + what + ") without callers", new PitchRows().many(what), OUTSIDE);
        }
    }
}
