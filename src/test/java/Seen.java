/** All that can be asked of an object without a change to it (but to fault()), as one text. */
final class Seen {
    private Seen() { }

    static String of(PitchRows x) {
        StringBuilder seen = new StringBuilder();
        for (int what = 0; what <= 4; what++) {
            add(seen, "many " + what, x.many(what));
        }
        for (int k = 0; k < 4; k++) {
            add(seen, "kind of " + k, x.ofCaller(k, 0));
            add(seen, "kinds of " + k, x.kinds(k));
            for (int beat = 0; beat < 6; beat++) {
                add(seen, "pitch of " + k + " in " + beat, x.ofCaller(k, 10 + beat));
                add(seen, "pitches of " + k + " in " + beat, x.pitches(k, beat));
            }
        }
        for (int moment = 0; moment <= 25; moment++) {
            add(seen, "air in " + moment, x.air(moment));
        }
        add(seen, "trace", x.trace());
        for (int k = 0; k < 4; k++) {
            for (int lane = 0; lane <= 2; lane++) {
                addRow(seen, x, k, lane);
            }
        }
        return seen.toString();
    }

    private static void add(StringBuilder seen, String what, long answer) {
        seen.append(what).append(": ").append(answer).append('\n');
    }

    /** Cells up to the first that there is not, and why there is none. */
    private static void addRow(StringBuilder seen, PitchRows x, int k, int lane) {
        int i = 0;
        long cell = x.cell(k, i, lane);
        while (cell != PitchRows.LOST) {
            add(seen, "cell " + i + " of " + k, cell);
            i++;
            cell = x.cell(k, i, lane);
        }
        add(seen, "sheet " + k + " as lane " + lane + " of " + i, x.fault());
    }
}
