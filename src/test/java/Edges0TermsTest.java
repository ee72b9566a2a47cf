import java.util.LinkedHashMap;
import java.util.Map;
import java.util.function.ToLongFunction;

/** The boundary cases of the terms, which hold for all promises: refusals, faults, sets, shares. */
public final class Edges0TermsTest {
    private static final Due due = new Due("Edges0TermsTest");
    private static final int MIN = Integer.MIN_VALUE, MAX = Integer.MAX_VALUE;
    private static final long LOST = PitchRows.LOST;

    public static void main(String[] args) {
        Edges.run(Edges0TermsTest.class, due);
    }

    /** Calls, each told by a name, with the answer that is due. */
    private static final class Calls {
        final Map<String, ToLongFunction<PitchRows>> calls = new LinkedHashMap<>();
        final Map<String, Long> wants = new LinkedHashMap<>();

        Calls add(String name, long want, ToLongFunction<PitchRows> call) {
            calls.put(name, call);
            wants.put(name, want);
            return this;
        }
    }

    /** Three callers, a free beat, full of sendings and readings, sheets of each lane and one of nothing. */
    private static PitchRows full() {
        PitchRows x = Due.with("c3;p01-;b2-1;k012");
        for (int m = 0; m < 8; m++) {
            x.send(m % 3, 2 * m, m % 6);
            x.reading(2, 2, 0, 0, 6);
        }
        Due.write(x, 0, 0, "ab");
        Due.cells(x, 1, 4, 9, MIN);
        x.tell(2);
        return x;
    }

    private static Calls refused() {
        Calls c = new Calls();
        c.add("callers(4, 0, 0, 0)", -1, x -> x.callers(4, 0, 0, 0));
        c.add("callers(3, 3, 0, 17)", -2, x -> x.callers(3, 3, 0, 17));
        c.add("ofCaller(3, 0)", -1, x -> x.ofCaller(3, 0)).add("ofCaller(0, 3)", -2, x -> x.ofCaller(0, 3));
        c.add("tune(3, 0, 0)", -1, x -> x.tune(3, 0, 0)).add("tune(0, 3, 0)", -1, x -> x.tune(0, 3, 0));
        c.add("tune(0, 0, 3)", -2, x -> x.tune(0, 0, 3)).add("tune(0, 0, -2)", -2, x -> x.tune(0, 0, -2));
        c.add("hears(3, 0, 0, 0)", -1, x -> x.hears(3, 0, 0, 0)).add("hears(0, 0, 6, 0)", -2, x -> x.hears(0, 0, 6, 0));
        c.add("send(3, 0, 0)", -1, x -> x.send(3, 0, 0)).add("send(0, 21, 0)", -2, x -> x.send(0, 21, 0));
        c.add("send(0, 0, 0)", -4, x -> x.send(0, 0, 0));
        c.add("unsend(9)", -2, x -> x.unsend(9)).add("unsend(-1)", -2, x -> x.unsend(-1));
        c.add("air(26)", -2, x -> x.air(26));
        c.add("listen(3, 0)", -1, x -> x.listen(3, 0)).add("listen(0, 26)", -2, x -> x.listen(0, 26));
        c.add("loudest(3, 0)", -1, x -> x.loudest(3, 0)).add("loudest(0, 2)", -2, x -> x.loudest(0, 2));
        c.add("day(4, 0, 0, 0, 0)", -1, x -> x.day(4, 0, 0, 0, 0));
        c.add("day(0, 0, 0, 21, 0)", -2, x -> x.day(0, 0, 0, 21, 0));
        c.add("day(0, 0, 0, 1, 0), of a and b", -2, x -> x.day(0, 0, 0, 1, 0));
        c.add("peak(3, 0)", -1, x -> x.peak(3, 0)).add("peak(0, 3)", -2, x -> x.peak(0, 3));
        c.add("clash(3, 0)", -1, x -> x.clash(3, 0)).add("clash(0, 3)", -1, x -> x.clash(0, 3));
        c.add("ways(3, 0)", -1, x -> x.ways(3, 0)).add("ways(0, 6)", -2, x -> x.ways(0, 6));
        c.add("next(3, 0)", -1, x -> x.next(3, 0)).add("next(2, 6)", -2, x -> x.next(2, 6));
        c.add("next(0, 0), a beat is free", -3, x -> x.next(0, 0));
        c.add("reading(0, 3, 0, 0, 0)", -1, x -> x.reading(0, 3, 0, 0, 0));
        c.add("reading(0, 0, 0, 0, 21)", -2, x -> x.reading(0, 0, 0, 0, 21));
        c.add("reading(0, 0, 0, 0, 0)", -4, x -> x.reading(0, 0, 0, 0, 0));
        c.add("back(9)", -2, x -> x.back(9)).add("back(-1)", -2, x -> x.back(-1));
        c.add("kinds(3)", -1, x -> x.kinds(3)).add("pitches(3, 0)", -1, x -> x.pitches(3, 0));
        c.add("pitches(0, 3)", -1, x -> x.pitches(0, 3));
        c.add("odds(3, 0, 0)", LOST, x -> x.odds(3, 0, 0)).add("odds(0, 21, 0)", LOST, x -> x.odds(0, 21, 0));
        c.add("sheet(4, 0, 1)", -1, x -> x.sheet(4, 0, 1)).add("sheet(0, 0, 61)", -2, x -> x.sheet(0, 0, 61));
        c.add("sheet(0, 3, 1)", -2, x -> x.sheet(0, 3, 1)).add("lose(4)", -1, x -> x.lose(4));
        c.add("put(4, 0, 1)", -1, x -> x.put(4, 0, 1));
        c.add("cell(4, 0, 0)", LOST, x -> x.cell(4, 0, 0)).add("cell(0, 0, 3)", LOST, x -> x.cell(0, 0, 3));
        c.add("copy(4, 0, 0, 1, 1)", -1, x -> x.copy(4, 0, 0, 1, 1));
        c.add("copy(0, 0, 4, 1, 1)", -1, x -> x.copy(0, 0, 4, 1, 1));
        c.add("tell(3)", -1, x -> x.tell(3)).add("hail(3)", -1, x -> x.hail(3));
        c.add("as(3, 0)", -1, x -> x.as(3, 0)).add("as(0, 3)", -2, x -> x.as(0, 3));
        c.add("many(5)", -2, x -> x.many(5)).add("many(-1)", -2, x -> x.many(-1));
        return c;
    }

    /** Each of the calls whose line names faults, with each that it names. */
    private static Calls faulted() {
        Calls c = new Calls();
        c.add("callers(3, 0, 0, 17)", -12, x -> x.callers(3, 0, 0, 17));
        c.add("callers(2, 0, 0, 0)", -11, x -> x.callers(2, 0, 0, 0));
        c.add("callers(3, 1, 0, -1)", -14, x -> x.callers(3, 1, 0, -1));
        c.add("callers(3, 1, 1, 17)", -13, x -> x.callers(3, 1, 1, 17));
        c.add("day(0, 1, 0, 1, 0)", -12, x -> x.day(0, 1, 0, 1, 0));
        c.add("day(2, 0, 0, 0, 0)", -11, x -> x.day(2, 0, 0, 0, 0));
        c.add("day(0, 0, 1, 1, 0)", -13, x -> x.day(0, 0, 1, 1, 0));
        c.add("sheet(0, 0, -1)", -14, x -> x.sheet(0, 0, -1));
        c.add("put(2, 0, 1)", -11, x -> x.put(2, 0, 1)).add("put(0, 2, 1)", -13, x -> x.put(0, 2, 1));
        c.add("cell(0, 0, 1)", LOST, x -> x.cell(0, 0, 1)).add("cell(2, 0, 0)", LOST, x -> x.cell(2, 0, 0));
        c.add("cell(0, 2, 0)", LOST, x -> x.cell(0, 2, 0));
        c.add("copy(2, 0, 0, 0, 0)", -11, x -> x.copy(2, 0, 0, 0, 0));
        c.add("copy(0, 0, 2, 0, 0)", -11, x -> x.copy(0, 0, 2, 0, 0));
        c.add("copy(0, 0, 1, 0, 0)", -12, x -> x.copy(0, 0, 1, 0, 0));
        c.add("copy(0, 0, 0, 1, 2)", -13, x -> x.copy(0, 0, 0, 1, 2));
        c.add("as(0, 1)", -12, x -> x.as(0, 1));
        return c;
    }

    private static void changeNothing(Calls c) {
        for (String name : c.calls.keySet()) {
            PitchRows x = full();
            String before = Seen.of(x);
            due.is(name, c.calls.get(name).applyAsLong(x), c.wants.get(name));
            due.holds(name + " changes nothing", Seen.of(x).equals(before));
        }
    }

    @Says({"UNKNOWN (there is no such CALLER, beat, SENDING, SHEET, place of a row), OUTSIDE (another number is not as"
            + " told), STATE (as told), FULL", "They change nothing (but fault(), of a call that names FAULTS)."})
    static void p00_refusalsChangeNothing() {
        changeNothing(refused());
    }

    @Says({"it answers -10 less it (LOST, where a long is answered, as for refusals) and changes nothing"})
    static void p00_faultsChangeNothing() {
        changeNothing(faulted());
    }

    @Says("REFUSALS: UNKNOWN (there is no such CALLER")
    static void p00_noSuchCallerInEachCall() {
        int[] none = {-1, 3, 4, MIN, MAX};
        for (int k : none) {
            PitchRows x = full();
            due.is("ofCaller(" + k + ")", x.ofCaller(k, 0), -1);
            due.is("tune(" + k + ")", x.tune(k, 0, 0), -1);
            due.is("hears(" + k + ")", x.hears(k, 0, 0, 0), -1);
            due.is("hears of " + k, x.hears(0, k, 0, 0), -1);
            due.is("send(" + k + ")", x.send(k, 0, 0), -1);
            due.is("listen(" + k + ")", x.listen(k, 0), -1);
            due.is("loudest(" + k + ")", x.loudest(k, 0), -1);
            due.is("peak(" + k + ")", x.peak(k, 0), -1);
            due.is("clash(" + k + ")", x.clash(k, 0), -1);
            due.is("clash of " + k, x.clash(0, k), -1);
            due.is("ways(" + k + ")", x.ways(k, 0), -1);
            due.is("next(" + k + ")", x.next(k, 0), -1);
            due.is("reading(" + k + ")", x.reading(k, 0, 0, 0, 0), -1);
            due.is("reading of " + k, x.reading(0, k, 0, 0, 0), -1);
            due.is("kinds(" + k + ")", x.kinds(k), -1);
            due.is("pitches(" + k + ")", x.pitches(k, 0), -1);
            due.is("odds(" + k + ")", x.odds(k, 0, 0), LOST);
            due.is("tell(" + k + ")", x.tell(k), -1);
            due.is("hail(" + k + ")", x.hail(k), -1);
            due.is("as(" + k + ")", x.as(k, 0), -1);
        }
    }

    @Says("there is no such CALLER, beat, SENDING, SHEET")
    static void p00_noSuchSheetInEachCall() {
        int[] none = {-1, 4, MIN, MAX};
        for (int k : none) {
            PitchRows x = full();
            due.is("callers(" + k + ")", x.callers(k, 0, 0, 0), -1);
            due.is("day(" + k + ")", x.day(k, 0, 0, 0, 0), -1);
            due.is("sheet(" + k + ")", x.sheet(k, 0, 1), -1);
            due.is("lose(" + k + ")", x.lose(k), -1);
            due.is("put(" + k + ")", x.put(k, 0, 0), -1);
            due.is("cell(" + k + ")", x.cell(k, 0, 0), LOST);
            due.is("copy(" + k + ")", x.copy(k, 0, 0, 0, 0), -1);
            due.is("copy to " + k, x.copy(0, 0, k, 0, 0), -1);
        }
    }

    @Says("of several the first in the order in which a call's line tells them")
    static void p00_ofSeveralRefusalsTheFirst() {
        PitchRows x = full();
        due.is("callers: sheet, lane, size", x.callers(4, 3, 0, -1), -1);
        due.is("callers: lane, null, size", x.callers(2, 3, 0, -1), -2);
        due.is("ofCaller: caller, what", x.ofCaller(3, 3), -1);
        due.is("tune: caller, beat, v", x.tune(3, 3, 3), -1);
        due.is("tune: beat, v", x.tune(0, 3, 3), -1);
        due.is("hears: whose, late", x.hears(0, 3, 6, 6), -1);
        due.is("send: caller, moment, full", x.send(3, 21, 6), -1);
        due.is("send: moment, full", x.send(0, 21, 0), -2);
        due.is("send: high, full", x.send(0, 0, 6), -2);
        due.is("air: moment, no callers", new PitchRows().air(26), -2);
        due.is("listen: caller, moment", x.listen(3, 26), -1);
        due.is("loudest: caller, what", x.loudest(3, 2), -1);
        due.is("day: sheet, lane", x.day(4, 3, 0, 0, 0), -1);
        due.is("day: what, no callers", new PitchRows().day(0, 0, 0, 0, 5), -2);
        due.is("day: no callers, null", new PitchRows().day(0, 0, 0, 0, 0), -3);
        due.is("peak: caller, what", x.peak(3, 3), -1);
        due.is("ways: caller, i", x.ways(3, 6), -1);
        due.is("next: caller, i, free", x.next(3, 6), -1);
        due.is("next: i, free", x.next(0, 6), -2);
        due.is("reading: whose, late, full", x.reading(0, 3, 6, 0, 0), -1);
        due.is("reading: v, full", x.reading(0, 0, 0, 0, 21), -2);
        due.is("sheet: sheet, lane, size", x.sheet(4, 3, -1), -1);
        due.is("sheet: lane, size", x.sheet(0, 3, -1), -2);
        due.is("put: sheet, index", x.put(4, 9, 0), -1);
        due.is("copy: other, null, index", x.copy(2, 9, 4, 9, 9), -1);
        due.is("as: caller, kind", x.as(3, 3), -1);
    }

    @Says("They change nothing (but fault(), of a call that names FAULTS)")
    static void p00_refusalsOfCallsThatNameFaultsSetFault() {
        Map<String, ToLongFunction<PitchRows>> calls = refused().calls;
        for (String name : calls.keySet()) {
            PitchRows x = full();
            x.put(0, 2, 1);
            calls.get(name).applyAsLong(x);
            boolean namesFaults = name.matches("(callers|day|sheet|put|cell|copy|as)\\(.*");
            due.is("fault() behind " + name, x.fault(), namesFaults ? 0 : 3);
        }
    }

    @Says({"FAULTS are the machine's: 1 NULL (there is nothing), 2 CAST (it is of another LANE, kind), 3 INDEX (of cells"
            + " from i on", ", 4 SIZE (a length below 0).", "fault() tells it."})
    static void p00_faultTellsEachFault() {
        Calls c = faulted();
        for (String name : c.calls.keySet()) {
            PitchRows x = full();
            long got = c.calls.get(name).applyAsLong(x);
            int told = x.fault();
            due.holds("fault() behind " + name + " is 1 .. 4", told >= 1 && told <= 4);
            due.is("-10 less fault() behind " + name, got == LOST ? LOST : -10 - told, c.wants.get(name));
        }
        PitchRows x = full();
        x.cell(2, 0, 0);
        due.is("fault() behind a cell of nothing", x.fault(), 1);
        x.cell(0, 0, 1);
        due.is("fault() behind a cell of another lane", x.fault(), 2);
        x.cell(0, 2, 0);
        due.is("fault() behind a cell beyond", x.fault(), 3);
        x.as(0, 2);
        due.is("fault() behind one of another kind", x.fault(), 2);
        x.callers(0, 0, 0, -1);
        due.is("fault() behind a length below 0", x.fault(), 4);
    }

    @Says("of cells from i on also where i is not 0 .. how many there are, if none of them is taken, too")
    static void p00_indexOfNoCells() {
        int[] from = {-1, 0, 2, 3, MIN, MAX};
        boolean[] is = {false, true, true, false, false, false};
        for (int j = 0; j < from.length; j++) {
            PitchRows x = full();
            int i = from[j];
            due.is("callers of none from " + i, x.callers(0, 0, i, 0), is[j] ? -100 : -13);
            due.is("day of none from " + i, x.day(0, 0, i, 0, 0), is[j] ? 8 : -13);
            due.is("copy of none from " + i, x.copy(0, i, 0, 0, 0), is[j] ? 0 : -13);
            due.is("copy of none to " + i, x.copy(0, 0, 0, i, 0), is[j] ? 0 : -13);
        }
    }

    @Says("Of a call the first that is come to, in the order told")
    static void p00_ofSeveralFaultsTheFirst() {
        PitchRows x = full();
        due.is("callers: cast, size, index", x.callers(0, 1, 9, -1), -12);
        due.is("callers: null, size, index", x.callers(2, 1, 9, -1), -11);
        due.is("callers: size, index", x.callers(0, 0, 9, -1), -14);
        due.is("callers: index, first fault", x.callers(0, 0, 1, 2), -13);
        due.is("day: cast, index", x.day(0, 1, 9, 1, 0), -12);
        due.is("day: null, index", x.day(2, 1, 9, 1, 0), -11);
        due.is("day: index, a pair outside", x.day(0, 0, 1, 1, 0), -13);
        due.is("put: null, index", x.put(2, -1, 1), -11);
        x.cell(0, 9, 1);
        due.is("cell: cast, index", x.fault(), 2);
        x.cell(2, 9, 1);
        due.is("cell: null, index", x.fault(), 1);
        due.is("copy: null, index", x.copy(2, 9, 0, 9, -1), -11);
        due.is("copy: the other null, index", x.copy(0, 9, 2, 9, -1), -11);
        due.is("copy: cast, index", x.copy(0, 9, 1, 9, -1), -12);
    }

    @Says("NONE is -9.")
    static void p00_none() {
        due.is("NONE", PitchRows.NONE, -9);
        due.is("a free beat", full().ofCaller(0, 12), -9);
    }

    @Says("Sets are told as bits (bit k for number k).")
    static void p00_setsAreBits() {
        PitchRows x = Due.with("c6;p0----5;k-----0");
        due.is("no pitch", x.air(0), 0);
        x.send(0, 0, 0);
        x.send(0, 0, 5);
        due.is("pitches 0 and 5", x.air(0), 1 + 32);
        due.is("pitches 5 and 10", x.air(5), 32 + 1024);
        due.is("all pitches", x.pitches(0, 1), 63);
        due.is("all kinds", x.kinds(0), 7);
        x.reading(0, 0, 0, 0, 4);
        due.is("kind 2 alone", x.kinds(0), 4);
        x.reading(0, 0, 0, 0, 3);
        due.is("no kind", x.kinds(0), 0);
        due.is("no pitches", x.pitches(0, 1), 0);
    }

    @Says("Shares are told as upper and lower number (above 0) in least terms.")
    static void p00_sharesInLeastTerms() {
        PitchRows x = Due.with("c6;k012345");
        for (int v = 0; v <= 20; v++) {
            long upper = x.odds(0, v, 0);
            long lower = x.odds(0, v, 1);
            due.holds("lower is above 0, by " + v, lower > 0);
            due.holds("upper is not below 0, by " + v, upper >= 0);
            due.is("of 120 shifts, by " + v, 120 % lower, 0);
            for (long d = 2; d <= lower; d++) {
                due.holds("least terms by " + v + " and " + d, upper % d != 0 || lower % d != 0);
            }
        }
    }

    @Says("An object is used for at most 512 calls after it has been made; what later calls answer is free.")
    static void p00_the512thCall() {
        PitchRows x = Due.with("c2;p01");
        int calls = 1 + 6 + 1;
        for (int call = calls + 1; call <= 510; call++) {
            x.hail(0);
        }
        due.is("the 511th", x.send(0, 20, 5), 0);
        due.is("the 512th", x.air(21), 64);
    }

    @Says("Nothing is promised beyond the answers and state changes described above")
    static void p00_objectsStandByThemselves() {
        PitchRows x = full();
        String before = Seen.of(x);
        PitchRows y = Due.with("c6;p012345");
        y.send(0, 3, 3);
        y.tell(0);
        due.holds("one object leaves another as it is", Seen.of(x).equals(before));
    }
}
