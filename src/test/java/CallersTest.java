/** Promises 1 to 5: a new object, callers, ofCaller, tune, hears. */
public final class CallersTest {
    private static final Due due = new Due("CallersTest");

    public static void main(String[] args) {
        aNewObject();
        textsThatAreTaken();
        textsThatEndTooSoon();
        codesWithWhichNoTextGoesOn();
        cellsOfASheet();
        refusalsAndFaultsOfCallers();
        aTextMakesAllAnew();
        aTextThatIsNotTakenChangesNothing();
        whatACallerIs();
        tuning();
        hearingOfKinds();
        hearingByShifts();
        due.end();
    }

    private static void aNewObject() {
        PitchRows x = new PitchRows();
        for (int what = 0; what <= 4; what++) {
            due.is("new many(" + what + ")", x.many(what), 0);
        }
        for (int k = 0; k < 4; k++) {
            due.is("new ofCaller(" + k + ", 0)", x.ofCaller(k, 0), PitchRows.UNKNOWN);
            due.is("new put(" + k + ", 0, 1)", x.put(k, 0, 1), -11);
            due.is("new lose(" + k + ")", x.lose(k), 0);
        }
        x = new PitchRows();
        due.is("new fault()", x.fault(), 0);
        due.is("new trace()", x.trace(), 0);
    }

    private static void textsThatAreTaken() {
        PitchRows x = new PitchRows();
        due.is("c2;p01", Due.told(x, "c2;p01"), 1);
        due.is("beats", x.many(1), 2);
        due.is("c6;k--0145", Due.told(x, "c6;k--0145"), 1);
        due.is("beats", x.many(1), 6);
        due.is("c3;p012;b222", Due.told(x, "c3;p012;b222"), 2);
        due.is("four", Due.told(x, "c6;p012345;b------;k555555;p0-1-2-"), 4);
        due.is("callers", x.many(0), 4);
        due.is("free", x.many(3), 9);
    }

    private static void textsThatEndTooSoon() {
        String whole = "c2;p01;b10;k--;p00";
        for (int n = 0; n <= whole.length(); n++) {
            PitchRows x = new PitchRows();
            Due.write(x, 0, 0, whole);
            boolean isText = n > 2 && (n - 2) % 4 == 0;
            due.is("first " + n, x.callers(0, 0, 0, n), isText ? (n - 2) / 4 : -100 - n);
            due.is("fault()", x.fault(), 0);
        }
    }

    private static void codesWithWhichNoTextGoesOn() {
        PitchRows x = new PitchRows();
        due.is("C2;p01", Due.told(x, "C2;p01"), -100);
        due.is("c1;p0", Due.told(x, "c1;p0"), -101);
        due.is("c7;p0123456", Due.told(x, "c7;p0123456"), -101);
        due.is("c:", Due.told(x, "c:"), -101);
        due.is("c2:p01", Due.told(x, "c2:p01"), -102);
        due.is("c2p01", Due.told(x, "c2p01"), -102);
        due.is("c2;q01", Due.told(x, "c2;q01"), -103);
        due.is("c2;P01", Due.told(x, "c2;P01"), -103);
        due.is("c2;;01", Due.told(x, "c2;;01"), -103);
        due.is("c2;p21", Due.told(x, "c2;p21"), -104);
        due.is("c2;p02", Due.told(x, "c2;p02"), -105);
        due.is("c2;p/0", Due.told(x, "c2;p/0"), -104);
        due.is("c2;p.0", Due.told(x, "c2;p.0"), -104);
        due.is("c2;p,0", Due.told(x, "c2;p,0"), -104);
        due.is("c6;p012346", Due.told(x, "c6;p012346"), -109);
        due.is("c2;p0;", Due.told(x, "c2;p0;"), -105);
        due.is("a sign too many", Due.told(x, "c2;p010"), -106);
        due.is("a dash too many", Due.told(x, "c2;p01-"), -106);
        due.is("a fifth caller", Due.told(x, "c2;p01;p01;p01;p01;p01"), -118);
        due.is("a sign behind the fourth", Due.told(x, "c2;p01;p01;p01;p010"), -118);
        Due.cells(x, 3, 99 + 256);
        due.is("99 and 256", x.callers(3, 2, 0, 1), -100);
        Due.cells(x, 3, 99, 50, 59, 112, 48, -1);
        due.is("a code below 0", x.callers(3, 2, 0, 6), -105);
        Due.cells(x, 3, 99, Integer.MIN_VALUE);
        due.is("the least code", x.callers(3, 2, 0, 2), -101);
    }

    private static void cellsOfASheet() {
        for (int lane = 0; lane <= 2; lane++) {
            PitchRows x = new PitchRows();
            Due.write(x, lane, lane, "..c2;k1-!");
            due.is("from 2 on", x.callers(lane, lane, 2, 6), 1);
            due.is("kind", x.ofCaller(0, 0), 2);
            due.is("pitch", x.ofCaller(0, 10), 1);
            due.is("free", x.ofCaller(0, 11), PitchRows.NONE);
            due.is("from 2 on, 7", x.callers(lane, lane, 2, 7), -106);
        }
        PitchRows x = new PitchRows();
        x.sheet(0, 0, 1);
        x.put(0, 0, 99 + 256);
        due.is("a byte is cut to c", x.callers(0, 0, 0, 1), -101);
    }

    private static void refusalsAndFaultsOfCallers() {
        PitchRows x = new PitchRows();
        Due.write(x, 1, 1, "c2;p01");
        due.is("callers(-1, 3, 9, -1)", x.callers(-1, 3, 9, -1), PitchRows.UNKNOWN);
        due.is("callers(4, 3, 9, -1)", x.callers(4, 3, 9, -1), PitchRows.UNKNOWN);
        due.is("callers(1, 3, 9, -1)", x.callers(1, 3, 9, -1), PitchRows.OUTSIDE);
        due.is("callers(1, -1, 9, -1)", x.callers(1, -1, 9, -1), PitchRows.OUTSIDE);
        due.is("callers(1, 0, 9, -1)", x.callers(1, 0, 9, -1), -12);
        due.is("fault()", x.fault(), 2);
        due.is("callers(0, 0, 9, -1)", x.callers(0, 0, 9, -1), -11);
        due.is("fault()", x.fault(), 1);
        due.is("callers(1, 1, 9, -1)", x.callers(1, 1, 9, -1), -14);
        due.is("fault()", x.fault(), 4);
        due.is("callers(1, 1, 7, 0)", x.callers(1, 1, 7, 0), -13);
        due.is("fault()", x.fault(), 3);
        due.is("callers(1, 1, -1, 0)", x.callers(1, 1, -1, 0), -13);
        due.is("callers(1, 1, 1, 6)", x.callers(1, 1, 1, 6), -13);
        due.is("callers(1, 1, 0, 7)", x.callers(1, 1, 0, 7), -13);
        due.is("callers(1, 1, 1, MAX)", x.callers(1, 1, 1, Integer.MAX_VALUE), -13);
        due.is("callers(1, 1, MAX, MAX)", x.callers(1, 1, Integer.MAX_VALUE, Integer.MAX_VALUE), -13);
        due.is("callers(1, 1, MIN, 1)", x.callers(1, 1, Integer.MIN_VALUE, 1), -13);
        due.is("many(0)", x.many(0), 0);
        due.is("callers(1, 1, 6, 0)", x.callers(1, 1, 6, 0), -100);
        due.is("fault()", x.fault(), 0);
        x.callers(1, 1, 7, 0);
        due.is("callers(1, 1, 0, 6)", x.callers(1, 1, 0, 6), 1);
        due.is("fault()", x.fault(), 0);
        x.callers(1, 1, 7, 0);
        x.callers(4, 1, 7, 0);
        due.is("fault() of a refused one", x.fault(), 0);
    }

    private static void aTextMakesAllAnew() {
        PitchRows x = Due.with("c3;p012;k---");
        x.send(0, 1, 1);
        x.reading(0, 0, 0, 0, 3);
        x.tell(0);
        Due.cells(x, 2, 7);
        due.is("anew", Due.told(x, "c2;b1-"), 1);
        due.is("callers", x.many(0), 1);
        due.is("beats", x.many(1), 2);
        due.is("sendings", x.many(2), 0);
        due.is("free", x.many(3), 1);
        due.is("readings", x.many(4), 0);
        due.is("air(1)", x.air(1), 0);
        due.is("kinds(0)", x.kinds(0), 7);
        due.is("kind", x.ofCaller(0, 0), 1);
        due.is("a caller that was", x.ofCaller(1, 0), PitchRows.UNKNOWN);
        due.is("a beat that was", x.ofCaller(0, 12), PitchRows.NONE);
        due.is("a sheet stays", x.cell(2, 0, 2), 7);
        due.is("the trace stays", x.trace(), 1);
        x.send(0, 0, 0);
        due.is("the same text once more", x.callers(3, 1, 0, 6), 1);
        due.is("sendings", x.many(2), 0);
    }

    private static void aTextThatIsNotTakenChangesNothing() {
        PitchRows x = Due.with("c3;p012;k---");
        x.send(0, 1, 1);
        x.reading(0, 0, 0, 0, 3);
        due.is("c2;b10;", Due.told(x, "c2;b10;"), -107);
        due.is("callers", x.many(0), 2);
        due.is("beats", x.many(1), 3);
        due.is("sendings", x.many(2), 1);
        due.is("free", x.many(3), 3);
        due.is("readings", x.many(4), 1);
        due.is("kind", x.ofCaller(0, 0), 0);
        due.is("pitch", x.ofCaller(0, 12), 2);
    }

    private static void whatACallerIs() {
        PitchRows x = Due.with("c4;p0132;b0123;k-13-;p0-32");
        for (int k = 0; k < 4; k++) {
            due.is("kind of " + k, x.ofCaller(k, 0), k % 3);
        }
        due.is("free of 0", x.ofCaller(0, 1), 0);
        due.is("free of 2", x.ofCaller(2, 1), 2);
        due.is("good 0", x.ofCaller(0, 2), 1);
        due.is("good 1", x.ofCaller(1, 2), 0);
        due.is("good 3, a beat is free", x.ofCaller(3, 2), 0);
        due.is("beat 0 of 2", x.ofCaller(2, 10), PitchRows.NONE);
        due.is("beat 1 of 2", x.ofCaller(2, 11), 1);
        due.is("beat 2 of 2", x.ofCaller(2, 12), 3);
        due.is("beat 4 of 2", x.ofCaller(2, 14), PitchRows.NONE);
        due.is("beat 5 of 2", x.ofCaller(2, 15), PitchRows.NONE);
        int[] outside = {-1, 3, 9, 16, Integer.MIN_VALUE, Integer.MAX_VALUE};
        for (int what : outside) {
            due.is("ofCaller(0, " + what + ")", x.ofCaller(0, what), PitchRows.OUTSIDE);
            due.is("ofCaller(4, " + what + ")", x.ofCaller(4, what), PitchRows.UNKNOWN);
        }
        due.is("ofCaller(-1, 0)", x.ofCaller(-1, 0), PitchRows.UNKNOWN);
        goodAreAllUnlike();
    }

    private static void goodAreAllUnlike() {
        due.is("c2;p00", Due.with("c2;p00").ofCaller(0, 2), 0);
        due.is("c2;p10", Due.with("c2;p10").ofCaller(0, 2), 1);
        due.is("c3;p010", Due.with("c3;p010").ofCaller(0, 2), 0);
        due.is("c3;p021", Due.with("c3;p021").ofCaller(0, 2), 1);
        due.is("of a keen one as of a plain one", Due.with("c3;k021").ofCaller(0, 2), 1);
        due.is("two late, one high, twice", Due.with("c4;p0213").ofCaller(0, 2), 0);
        due.is("the first beat is free", Due.with("c3;p-02").ofCaller(0, 2), 0);
        due.is("c6;p014352", Due.with("c6;p014352").ofCaller(0, 2), 1);
        due.is("two late, twice", Due.with("c6;p024135").ofCaller(0, 2), 0);
    }

    private static void tuning() {
        PitchRows x = Due.with("c3;p012;b-2-");
        due.is("tune(0, 0, 2)", x.tune(0, 0, 2), 0);
        due.is("it is", x.ofCaller(0, 10), 2);
        due.is("tune(0, 0, -1)", x.tune(0, 0, -1), 2);
        due.is("it is", x.ofCaller(0, 10), PitchRows.NONE);
        due.is("tune(0, 0, -1)", x.tune(0, 0, -1), PitchRows.NONE);
        due.is("many(3)", x.many(3), 3);
        due.is("tune(1, 2, 0)", x.tune(1, 2, 0), PitchRows.NONE);
        due.is("many(3)", x.many(3), 2);
        due.is("tune(2, 0, 9)", x.tune(2, 0, 9), PitchRows.UNKNOWN);
        due.is("tune(-1, 0, 0)", x.tune(-1, 0, 0), PitchRows.UNKNOWN);
        due.is("tune(0, 3, 9)", x.tune(0, 3, 9), PitchRows.UNKNOWN);
        due.is("tune(0, -1, 0)", x.tune(0, -1, 0), PitchRows.UNKNOWN);
        due.is("tune(0, 1, 3)", x.tune(0, 1, 3), PitchRows.OUTSIDE);
        due.is("tune(0, 1, -2)", x.tune(0, 1, -2), PitchRows.OUTSIDE);
        due.is("tune(0, 1, -9)", x.tune(0, 1, -9), PitchRows.OUTSIDE);
        due.is("it is still", x.ofCaller(0, 11), 1);
        due.is("new tune(0, 0, 0)", new PitchRows().tune(0, 0, 0), PitchRows.UNKNOWN);
    }

    private static void hearingOfKinds() {
        PitchRows x = Due.with("c5;p01234;b01234;k01234;p0022-");
        int[] own = {5, 5, 10};
        // 0 of 0, 1 of 0, 2 of 2, 3 of 2: two the same, two beside
        int[] other = {2, 4, 6};
        // one higher: 0 of 1, 1 of 1, 2 of 3, 3 of 3: two the same, two beside
        // one lower: 0 of -1, 1 of -1, 2 of 1, 3 of 1: none the same, two beside
        int[] lower = {0, 2, 2};
        for (int k = 0; k < 3; k++) {
            due.is("hears(" + k + ", 0, 0, 0)", x.hears(k, 0, 0, 0), own[k]);
            due.is("hears(" + k + ", 3, 0, 0)", x.hears(k, 3, 0, 0), other[k]);
            due.is("hears(" + k + ", 3, 0, 1)", x.hears(k, 3, 0, 1), other[k]);
            due.is("hears(" + k + ", 3, 0, -1)", x.hears(k, 3, 0, -1), lower[k]);
        }
        due.is("own beats that are free", x.hears(3, 0, 0, 0), 2);
        PitchRows y = Due.with("c2;b0-;b--");
        due.is("what is free is not beside 0", y.hears(0, 1, 0, 0), 0);
        due.is("nor is it by a shift", y.hears(0, 1, 0, 1), 0);
        due.is("both are free", y.hears(1, 1, 0, 0), 0);
        due.is("own are free", y.hears(1, 0, 0, -1), 0);
    }

    private static void hearingByShifts() {
        PitchRows x = Due.with("c6;p012345;p543210");
        for (int shift = -5; shift <= 5; shift++) {
            int fit = 6 - Math.abs(shift);
            due.is("as late as high " + shift, x.hears(0, 0, shift, shift), fit);
            due.is("as late as low " + shift, x.hears(1, 1, shift, -shift), fit);
            due.is("late alone " + shift, x.hears(0, 0, shift, 0), shift == 0 ? 6 : 0);
        }
        PitchRows y = Due.with("c3;p012;p211");
        // late 1: own beats 1, 2 (1, 2) and beats 0, 1 of the other (2, 1)
        due.is("late 1, high -1", y.hears(0, 1, 1, -1), 1);
        due.is("late 1, high 1", y.hears(0, 1, 1, 1), 1);
        // late -1: own beats 0, 1 (0, 1) and beats 1, 2 of the other (1, 1)
        due.is("late -1, high 0", y.hears(0, 1, -1, 0), 1);
        due.is("late -1, high -1", y.hears(0, 1, -1, -1), 1);
        due.is("late 2, high 0", y.hears(0, 1, 2, 0), 1);
        due.is("the other of the first, late -2", y.hears(1, 0, -2, 0), 1);
        due.is("late 3", y.hears(0, 1, 3, 0), 0);
        due.is("hears(2, 0, 6, 0)", y.hears(2, 0, 6, 0), PitchRows.UNKNOWN);
        due.is("hears(0, 2, 6, 0)", y.hears(0, 2, 6, 0), PitchRows.UNKNOWN);
        due.is("hears(0, -1, 0, 0)", y.hears(0, -1, 0, 0), PitchRows.UNKNOWN);
        due.is("hears(-1, 0, 0, 0)", y.hears(-1, 0, 0, 0), PitchRows.UNKNOWN);
        due.is("hears(0, 1, 6, 0)", y.hears(0, 1, 6, 0), PitchRows.OUTSIDE);
        due.is("hears(0, 1, -6, 0)", y.hears(0, 1, -6, 0), PitchRows.OUTSIDE);
        due.is("hears(0, 1, 0, 6)", y.hears(0, 1, 0, 6), PitchRows.OUTSIDE);
        due.is("hears(0, 1, 0, -6)", y.hears(0, 1, 0, -6), PitchRows.OUTSIDE);
    }
}
