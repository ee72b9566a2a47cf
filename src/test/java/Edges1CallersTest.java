/** The boundary cases of promises 1 to 5, each with the sentence that names it. */
public final class Edges1CallersTest {
    private static final Due due = new Due("Edges1CallersTest");
    private static final int MIN = Integer.MIN_VALUE, MAX = Integer.MAX_VALUE;
    private static final int UNKNOWN = PitchRows.UNKNOWN, OUTSIDE = PitchRows.OUTSIDE, NONE = PitchRows.NONE;
    private static final int IS_NULL = -11, CAST = -12, INDEX = -13, SIZE = -14;

    public static void main(String[] args) {
        Edges.run(Edges1CallersTest.class, due);
    }

    /** What a new object's callers() answers to a text. */
    private static int told(String text) {
        return Due.told(new PitchRows(), text);
    }

    // ---- promise 1

    @Says("No CALLERS")
    static void p01_noCallersAtFirst() {
        PitchRows x = new PitchRows();
        for (int k = 0; k < 4; k++) {
            due.is("ofCaller(" + k + ", 0)", x.ofCaller(k, 0), UNKNOWN);
            due.is("tell(" + k + ")", x.tell(k), UNKNOWN);
        }
        due.is("many(0)", x.many(0), 0);
        due.is("rows()", x.rows(), PitchRows.STATE);
    }

    @Says("SHEETS have nothing.")
    static void p01_sheetsHaveNothingAtFirst() {
        PitchRows x = new PitchRows();
        for (int k = 0; k < 4; k++) {
            due.is("put(" + k + ", 0, 0)", x.put(k, 0, 0), IS_NULL);
            for (int lane = 0; lane <= 2; lane++) {
                due.is("callers(" + k + ", " + lane + ", 0, 0)", x.callers(k, lane, 0, 0), IS_NULL);
            }
            due.is("lose(" + k + ")", x.lose(k), 0);
        }
    }

    // ---- promise 2: the text

    @Says("how many codes there are, if it just ends too soon.")
    static void p02_aTextOfNoCodes() {
        PitchRows x = new PitchRows();
        x.sheet(0, 0, 0);
        due.is("of a row of none", x.callers(0, 0, 0, 0), -100);
        Due.write(x, 1, 0, "c2;p01");
        due.is("from the first cell on", x.callers(1, 0, 0, 0), -100);
        due.is("behind the last cell", x.callers(1, 0, 6, 0), -100);
        due.is("fault()", x.fault(), 0);
        due.is("many(0)", x.many(0), 0);
    }

    @Says({"FIRST FAULT: ", "how many codes there are, if it just ends too soon."})
    static void p02_aTextThatJustEndsTooSoon() {
        String[] texts = {"c2;p01;b10;k--;p00", "c3;k012;p---;b0-0;b222", "c6;p012345;b------;k543210;p0-1-2-"};
        for (String text : texts) {
            int each = text.charAt(1) - '0' + 2;
            for (int n = 0; n <= text.length(); n++) {
                boolean isWhole = n > 2 && (n - 2) % each == 0;
                due.is(text.substring(0, n), told(text.substring(0, n)), isWhole ? (n - 2) / each : -100 - n);
            }
        }
    }

    @Says("a sign too many")
    static void p02_aSignTooMany() {
        due.is("a digit", told("c2;p010"), -106);
        due.is("a dash", told("c2;p01-"), -106);
        due.is("a letter", told("c2;p01b"), -106);
        due.is("c", told("c2;p01c2;p01"), -106);
        due.is("of six beats", told("c6;p0123450"), -110);
        due.is("of the second caller", told("c2;p01;k--1"), -110);
        due.is("of the fourth caller", told("c2;p01;k--;b00;p111"), -118);
    }

    @Says("the ; of a fifth CALLER")
    static void p02_theSemicolonOfAFifthCaller() {
        due.is("of two beats", told("c2;p01;p01;p01;p01;p01"), -118);
        due.is("the ; alone", told("c2;p01;p01;p01;p01;"), -118);
        due.is("of six beats", told("c6;p012345;p012345;p012345;p012345;p012345"), -134);
        due.is("without it", told("c6;p012345;p012345;p012345;p012345"), 4);
    }

    @Says("the place (from 0 on) of the first code with which no TEXT goes on")
    static void p02_ofSeveralFaultsTheFirst() {
        due.is("the first and all others", told("xxxx"), -100);
        due.is("the second and the third", told("c9:p01"), -101);
        due.is("the third and the last", told("c2:p0x"), -102);
        due.is("the last two", told("c2;pxx"), -104);
        due.is("a fault, and it ends too soon", told("c2;q"), -103);
        due.is("behind a whole text", told("c2;p01!"), -106);
    }

    @Says("a digit 2 .. 6 (n: how many BEATS each CALL has, numbered from 0 on)")
    static void p02_aDigitThatIsNo2To6() {
        String signs = "--------";
        for (int n = 0; n <= 9; n++) {
            String text = "c" + n + ";p" + signs.substring(0, Math.min(n, 8));
            PitchRows x = new PitchRows();
            boolean isTaken = n >= 2 && n <= 6;
            due.is(text, Due.told(x, text), isTaken ? 1 : -101);
            due.is("beats of " + text, x.many(1), isTaken ? n : 0);
        }
    }

    @Says("a digit 0 .. n less 1 (its PITCH) or a dash (it is FREE).")
    static void p02_aDigitThatIsNoPitch() {
        for (int n = 2; n <= 6; n++) {
            for (int beat = 0; beat < n; beat++) {
                for (int v = 0; v <= 9; v++) {
                    StringBuilder text = new StringBuilder("c").append(n).append(";p------");
                    text.setLength(4 + n);
                    text.setCharAt(4 + beat, (char) ('0' + v));
                    PitchRows x = new PitchRows();
                    due.is(text.toString(), Due.told(x, text.toString()), v < n ? 1 : -104 - beat);
                    due.is("its pitch", x.ofCaller(0, 10 + beat), v < n ? v : UNKNOWN);
                }
            }
        }
    }

    @Says("(Codes: c 99, p 112, b 98, k 107, ; 59, the dash 45, digits 48 .. 57.)")
    static void p02_eachCodeInEachPlace() {
        String[] starts = {"", "c", "c3", "c3;", "c3;p", "c3;p0", "c3;p01", "c3;p012", "c3;p012;b---;k---;p---"};
        String[] goOn = {"c", "23456", ";", "pbk", "012-", "012-", "012-", ";", ""};
        for (int s = 0; s < starts.length; s++) {
            int length = starts[s].length();
            for (int code = -128; code < 128; code++) {
                PitchRows x = new PitchRows();
                x.sheet(0, 0, length + 1);
                for (int i = 0; i < length; i++) {
                    x.put(0, i, starts[s].charAt(i));
                }
                x.put(0, length, code);
                boolean goesOn = goOn[s].indexOf(code) >= 0;
                boolean isWhole = goesOn && length == 6;
                int want = isWhole ? 1 : goesOn ? -101 - length : -100 - length;
                due.is(starts[s] + " and code " + code, x.callers(0, 0, 0, length + 1), want);
            }
        }
    }

    @Says("taken as a row of a LANE")
    static void p02_codesBeyondABytes() {
        for (int more : new int[] {256, -256, 65536}) {
            PitchRows x = new PitchRows();
            for (int lane = 0; lane <= 2; lane++) {
                Due.write(x, lane, lane, "c2;p01");
                x.put(lane, 0, 'c' + more);
                boolean isCut = lane == 0 || lane == 1 && more == 65536;
                due.is("lane " + lane + ", c and " + more, x.callers(lane, lane, 0, 6), isCut ? 1 : -100);
            }
        }
    }

    @Says({"CALLERS by a TEXT: c, ", "then 1 to 4 CALLERS, numbered from 0 on, each: ; and a letter (its kind)"})
    static void p02_oneToFourCallers() {
        due.is("none", told("c2"), -102);
        StringBuilder text = new StringBuilder("c2");
        String kinds = "pbkp";
        for (int k = 0; k < 4; k++) {
            text.append(';').append(kinds.charAt(k)).append(k % 2).append('-');
            PitchRows x = new PitchRows();
            due.is(text.toString(), Due.told(x, text.toString()), k + 1);
            due.is("kind of the last", x.ofCaller(k, 0), k % 3);
            due.is("pitch of the last", x.ofCaller(k, 10), k % 2);
            due.is("one behind it", x.ofCaller(k + 1, 0), UNKNOWN);
        }
    }

    @Says("then n signs, one for each BEAT:")
    static void p02_nSignsOneForEachBeat() {
        PitchRows x = Due.with("c6;p543210;k0-1-2-");
        int[] want = {0, NONE, 1, NONE, 2, NONE};
        for (int beat = 0; beat < 6; beat++) {
            due.is("beat " + beat, x.ofCaller(0, 10 + beat), 5 - beat);
            due.is("beat " + beat + " of the other", x.ofCaller(1, 10 + beat), want[beat]);
        }
    }

    @Says("A TEXT that is taken makes all anew: nothing is SENT, no READINGS.")
    static void p02_aTextMakesAllAnew() {
        PitchRows x = Due.with("c2;p01;k10");
        for (int m = 0; m < 8; m++) {
            x.send(0, m, 0);
            x.reading(0, 0, 0, 0, 9);
        }
        x.tune(0, 0, -1);
        due.is("the same text", x.callers(3, 1, 0, 10), 2);
        due.is("sendings", x.many(2), 0);
        due.is("readings", x.many(4), 0);
        due.is("free beats", x.many(3), 0);
        due.is("the first number", x.send(1, 0, 0), 0);
        due.is("the first number", x.reading(1, 0, 0, 0, 0), 0);
        due.is("fewer callers", x.callers(3, 1, 0, 6), 1);
        due.is("a caller that was", x.ofCaller(1, 0), UNKNOWN);
    }

    // ---- promise 2: the call

    @Says("-100 less the FIRST FAULT.")
    static void p02_aTextWithAFaultChangesNothing() {
        PitchRows x = Due.with("c3;p012;b1--");
        x.send(0, 4, 1);
        x.reading(0, 0, 0, 0, 3);
        String before = Seen.of(x);
        due.is("it ends too soon", x.callers(3, 1, 0, 11), -111);
        due.is("fault()", x.fault(), 0);
        due.is("no c", x.callers(3, 1, 1, 5), -100);
        due.is("fault()", x.fault(), 0);
        due.holds("nothing is changed", Seen.of(x).equals(before));
    }

    @Says("CALLERS by a TEXT of n cells of a SHEET from i on, taken as a row of a LANE: how many;")
    static void p02_cellsFromIOn() {
        for (int lane = 0; lane <= 2; lane++) {
            PitchRows x = new PitchRows();
            Due.write(x, lane, lane, "c2;p01;k--c3;b012");
            due.is("one ahead", x.callers(lane, lane, 0, 6), 1);
            due.is("both ahead", x.callers(lane, lane, 0, 10), 2);
            due.is("up to the last cell", x.callers(lane, lane, 10, 7), 1);
            due.is("beats of it", x.many(1), 3);
            due.is("all", x.callers(lane, lane, 0, 17), -110);
        }
        PitchRows x = new PitchRows();
        x.sheet(0, 0, 60);
        String text = "c2;b10";
        for (int i = 0; i < 6; i++) {
            x.put(0, 54 + i, text.charAt(i));
        }
        due.is("the last of 60 cells", x.callers(0, 0, 54, 6), 1);
        due.is("one beyond", x.callers(0, 0, 55, 6), INDEX);
    }

    @Says("UNKNOWN; OUTSIDE: lane; CAST (nothing is no CAST); NULL; SIZE: n below 0; INDEX; -100 less it.")
    static void p02_refusalsAndFaultsInTheirOrder() {
        PitchRows x = new PitchRows();
        Due.write(x, 1, 1, "c2;p01");
        int[] noSheet = {-1, 4, MIN, MAX};
        int[] noLane = {-1, 3, MIN, MAX};
        for (int k : noSheet) {
            due.is("sheet " + k, x.callers(k, 3, 9, -1), UNKNOWN);
        }
        for (int lane : noLane) {
            due.is("lane " + lane, x.callers(1, lane, 9, -1), OUTSIDE);
            due.is("lane " + lane + " of nothing", x.callers(0, lane, 9, -1), OUTSIDE);
        }
        due.is("lane 0", x.callers(1, 0, 9, -1), CAST);
        due.is("lane 2", x.callers(1, 2, 0, 6), CAST);
        due.is("nothing", x.callers(0, 2, 9, -1), IS_NULL);
        due.is("n -1", x.callers(1, 1, 9, -1), SIZE);
        due.is("i 9", x.callers(1, 1, 9, 0), INDEX);
        due.is("i 5, n 2, it is no text", x.callers(1, 1, 5, 2), INDEX);
        due.is("no text", x.callers(1, 1, 5, 1), -100);
    }

    @Says("CAST (nothing is no CAST); NULL;")
    static void p02_nothingIsNoCast() {
        PitchRows x = new PitchRows();
        x.sheet(0, 1, 3);
        x.lose(0);
        for (int lane = 0; lane <= 2; lane++) {
            due.is("lane " + lane + " of what was lost", x.callers(0, lane, 0, 3), IS_NULL);
            due.is("fault()", x.fault(), 1);
        }
    }

    @Says("SIZE: n below 0;")
    static void p02_nBelow0() {
        PitchRows x = new PitchRows();
        Due.write(x, 1, 1, "c2;p01");
        for (int n : new int[] {-1, -2, -6, MIN}) {
            due.is("n " + n, x.callers(1, 1, 0, n), SIZE);
            due.is("fault()", x.fault(), 4);
            due.is("n " + n + " from -1 on", x.callers(1, 1, -1, n), SIZE);
            due.is("n " + n + " from 6 on", x.callers(1, 1, 6, n), SIZE);
        }
    }

    @Says("INDEX;")
    static void p02_cellsBeside() {
        PitchRows x = new PitchRows();
        Due.write(x, 1, 1, "c2;p01");
        int[][] beside = {{-1, 0}, {7, 0}, {-1, 1}, {-1, 7}, {6, 1}, {0, 7}, {1, 6}, {5, 2}, {0, MAX}, {1, MAX}, {6, MAX},
            {MAX, 0}, {MAX, 1}, {MAX, MAX}, {MIN, 0}, {MIN, 1}, {MIN, MAX}};
        for (int[] b : beside) {
            due.is("callers(1, 1, " + b[0] + ", " + b[1] + ")", x.callers(1, 1, b[0], b[1]), INDEX);
            due.is("fault()", x.fault(), 3);
        }
        due.is("all cells", x.callers(1, 1, 0, 6), 1);
        due.is("fault()", x.fault(), 0);
    }

    // ---- promise 3

    @Says({"Of a CALLER: 0 kind", "Kinds: 0 PLAIN (p); 1 BROAD (b), a PLAIN one; 2 KEEN (k), a BROAD one."})
    static void p03_kinds() {
        PitchRows x = Due.with("c2;k01;b01;p01");
        for (int k = 0; k < 3; k++) {
            due.is("kind of " + k, x.ofCaller(k, 0), 2 - k);
        }
    }

    @Says("1 how many BEATS of its CALL are FREE")
    static void p03_freeBeats() {
        PitchRows x = Due.with("c6;p012345;p-----5;p------;p0-2-4-");
        int[] want = {0, 5, 6, 3};
        for (int k = 0; k < 4; k++) {
            due.is("free beats of " + k, x.ofCaller(k, 1), want[k]);
        }
        x.tune(2, 5, 0);
        due.is("one less", x.ofCaller(2, 1), 5);
    }

    @Says("2 whether its CALL is GOOD (1, 0; 0, if a BEAT is FREE)")
    static void p03_good() {
        PitchRows x = Due.with("c2;p01;k10;p00;b11");
        int[] two = {1, 1, 0, 0};
        for (int k = 0; k < 4; k++) {
            due.is("of two beats, " + k, x.ofCaller(k, 2), two[k]);
        }
        PitchRows six = Due.with("c6;b014352;p014353;p-14352;p01435-");
        int[] want = {1, 0, 0, 0};
        for (int k = 0; k < 4; k++) {
            due.is("of six beats, " + k, six.ofCaller(k, 2), want[k]);
        }
        six.tune(2, 0, 0);
        due.is("no longer free", six.ofCaller(2, 2), 1);
        due.is("all free", Due.with("c2;p--").ofCaller(0, 2), 0);
        due.is("the first beat is free, the rest good", Due.with("c3;p-02").ofCaller(0, 2), 0);
        due.is("the last beat is free, the rest good", Due.with("c3;p02-").ofCaller(0, 2), 0);
    }

    @Says("10 and i the PITCH of BEAT i (NONE: it is FREE, there is no such BEAT).")
    static void p03_pitches() {
        for (int n = 2; n <= 6; n++) {
            PitchRows x = Due.with(("c" + n + ";p------").substring(0, 4 + n));
            for (int beat = 0; beat < 6; beat++) {
                due.is("beat " + beat + " of " + n + ", free", x.ofCaller(0, 10 + beat), NONE);
                x.tune(0, beat, n - 1);
                due.is("beat " + beat + " of " + n, x.ofCaller(0, 10 + beat), beat < n ? n - 1 : NONE);
            }
        }
    }

    @Says("UNKNOWN; OUTSIDE: what (0 .. 2, 10 .. 15).")
    static void p03_what() {
        PitchRows x = Due.with("c2;p01");
        int[] outside = {-1, 3, 4, 9, 16, MIN, MAX};
        for (int what : outside) {
            due.is("ofCaller(0, " + what + ")", x.ofCaller(0, what), OUTSIDE);
            due.is("ofCaller(1, " + what + ")", x.ofCaller(1, what), UNKNOWN);
            due.is("ofCaller(-1, " + what + ")", x.ofCaller(-1, what), UNKNOWN);
        }
        due.is("what 2", x.ofCaller(0, 2), 1);
        due.is("what 10", x.ofCaller(0, 10), 0);
        due.is("what 15", x.ofCaller(0, 15), NONE);
    }

    // ---- promise 4

    @Says("The PITCH of a BEAT becomes v (0 .. n less 1), or it is FREE (-1): what it was (NONE: FREE).")
    static void p04_leastAndMostPitch() {
        for (int n = 2; n <= 6; n++) {
            PitchRows x = Due.with(("c" + n + ";p------").substring(0, 4 + n));
            int last = n - 1;
            due.is("0 of " + n, x.tune(0, last, 0), NONE);
            due.is("it is", x.ofCaller(0, 10 + last), 0);
            due.is("n less 1 of " + n, x.tune(0, last, n - 1), 0);
            due.is("it is", x.ofCaller(0, 10 + last), n - 1);
            due.is("n of " + n, x.tune(0, last, n), OUTSIDE);
            due.is("-2 of " + n, x.tune(0, last, -2), OUTSIDE);
            due.is("it is still", x.ofCaller(0, 10 + last), n - 1);
            due.is("free", x.tune(0, last, -1), n - 1);
            due.is("it is", x.ofCaller(0, 10 + last), NONE);
            due.is("free once more", x.tune(0, last, -1), NONE);
        }
    }

    @Says("UNKNOWN: CALLER, beat; OUTSIDE.")
    static void p04_aBeatThatThereIsNot() {
        for (int n = 2; n <= 6; n++) {
            PitchRows x = Due.with(("c" + n + ";p------").substring(0, 4 + n));
            due.is("the last beat of " + n, x.tune(0, n - 1, 1), NONE);
            due.is("the first beat of " + n, x.tune(0, 0, 1), NONE);
            for (int beat : new int[] {-1, n, 6, MIN, MAX}) {
                due.is("beat " + beat + " of " + n, x.tune(0, beat, 1), UNKNOWN);
                due.is("beat " + beat + " of " + n + ", v outside", x.tune(0, beat, n), UNKNOWN);
            }
            due.is("no such caller", x.tune(1, 0, 1), UNKNOWN);
            due.is("v outside", x.tune(0, 0, MAX), OUTSIDE);
            due.is("v outside", x.tune(0, 0, MIN), OUTSIDE);
            due.is("free beats left", x.many(3), n - 2);
        }
    }

    @Says("The PITCH of a BEAT becomes v")
    static void p04_otherBeatsStay() {
        PitchRows x = Due.with("c3;p012;b012");
        x.tune(0, 1, 2);
        int[] want = {0, 2, 2};
        for (int beat = 0; beat < 3; beat++) {
            due.is("beat " + beat, x.ofCaller(0, 10 + beat), want[beat]);
            due.is("beat " + beat + " of the other", x.ofCaller(1, 10 + beat), beat);
        }
    }

    // ---- promise 5

    @Says({"COUNTS of two PITCHES, own and heard: of a PLAIN one 1, if they are the same; of a BROAD one also, if they are"
            + " one beside; of a KEEN one what a BROAD one counts and what a PLAIN one does; else 0."})
    static void p05_countsOfAllPitches() {
        String[] kinds = {"p", "b", "k"};
        for (int kind = 0; kind < 3; kind++) {
            for (int own = 0; own < 6; own++) {
                PitchRows x = Due.with("c6;" + kinds[kind] + own + "-----;p------");
                for (int heard = 0; heard < 6; heard++) {
                    x.tune(1, 0, heard);
                    for (int high = -5; high <= 5; high++) {
                        int apart = Math.abs(own - heard - high);
                        int plain = apart == 0 ? 1 : 0;
                        int broad = apart <= 1 ? 1 : 0;
                        int want = kind == 0 ? plain : kind == 1 ? broad : broad + plain;
                        due.is(kinds[kind] + own + " of " + heard + " and " + high, x.hears(0, 1, 0, high), want);
                    }
                }
            }
        }
    }

    @Says("What is FREE counts nothing.")
    static void p05_whatIsFreeCountsNothing() {
        for (String kind : new String[] {"p", "b", "k"}) {
            PitchRows x = Due.with("c2;" + kind + "0-;" + kind + "-1;" + kind + "--");
            for (int high = -5; high <= 5; high++) {
                due.is("free and a pitch, high " + high, x.hears(0, 1, 0, high), 0);
                due.is("free and free, high " + high, x.hears(2, 2, 0, high), 0);
                due.is("a pitch and all free, high " + high, x.hears(0, 2, 0, high), 0);
                due.is("all free and a pitch, high " + high, x.hears(2, 1, 0, high), 0);
            }
        }
    }

    @Says("HEARS of a CALLER and a CALL by a SHIFT, late and high (-5 .. 5 each): over all BEATS i of the CALL, for which"
            + " there is a BEAT i and late together of the CALLER's own:")
    static void p05_beatsThatThereAre() {
        for (int own = 0; own < 6; own++) {
            for (int of = 0; of < 6; of++) {
                PitchRows x = Due.with("c6;p------;p------");
                x.tune(0, own, 3);
                x.tune(1, of, 3);
                for (int late = -5; late <= 5; late++) {
                    due.is("beat " + own + " of " + of + ", late " + late, x.hears(0, 1, late, 0), own == of + late ? 1 : 0);
                }
            }
        }
        PitchRows two = Due.with("c2;k00");
        int[] want = {0, 0, 0, 0, 2, 4, 2, 0, 0, 0, 0};
        for (int late = -5; late <= 5; late++) {
            due.is("two beats, late " + late, two.hears(0, 0, late, 0), want[late + 5]);
        }
    }

    @Says("COUNTS of the PITCH of this and the PITCH of that BEAT i and high together; added.")
    static void p05_addedOverAllBeats() {
        PitchRows x = Due.with("c6;k012345;p012345");
        for (int shift = -5; shift <= 5; shift++) {
            due.is("by " + shift, x.hears(0, 1, shift, shift), 2 * (6 - Math.abs(shift)));
        }
        PitchRows broad = Due.with("c6;b012345;p012345");
        for (int high = -5; high <= 5; high++) {
            due.is("high " + high, broad.hears(0, 1, 0, high), Math.abs(high) <= 1 ? 6 : 0);
        }
    }

    @Says("HEARS of a CALLER and the CALL of a CALLER. UNKNOWN: either; OUTSIDE: late, high (-5 .. 5).")
    static void p05_lateAndHigh() {
        PitchRows x = Due.with("c6;p0----5;p5----0");
        due.is("late 5, high 5", x.hears(0, 0, 5, 5), 1);
        due.is("late -5, high -5", x.hears(0, 0, -5, -5), 1);
        due.is("late 5, high -5", x.hears(1, 1, 5, -5), 1);
        due.is("late -5, high 5", x.hears(1, 1, -5, 5), 1);
        for (int far : new int[] {-6, 6, MIN, MAX}) {
            due.is("late " + far, x.hears(0, 0, far, 0), OUTSIDE);
            due.is("high " + far, x.hears(0, 0, 0, far), OUTSIDE);
            due.is("late " + far + ", no such caller", x.hears(2, 0, far, 0), UNKNOWN);
            due.is("high " + far + ", of no such caller", x.hears(0, 2, 0, far), UNKNOWN);
            due.is("of caller " + far, x.hears(0, far, 0, 0), UNKNOWN);
        }
    }
}
