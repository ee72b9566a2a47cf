/** What the tests share: it counts and prints the answers that are not the ones that are due. */
final class Due {
    private final String test;
    private String part = "";
    private int asked;
    private int wrong;

    Due(String test) {
        this.test = test;
    }

    /** Names the part of the test to which what follows belongs, as it is printed. */
    void begin(String name) {
        part = " " + name;
    }

    /** A call, as it is printed if its answer is wrong, what it answered, what is due. */
    void is(String call, long got, long want) {
        asked++;
        if (got != want) {
            wrong++;
            System.out.println(test + part + ": " + call + " answered " + got + ", due is " + want);
        }
    }

    void holds(String what, boolean so) {
        asked++;
        if (!so) {
            wrong++;
            System.out.println(test + part + ": not so: " + what);
        }
    }

    /** Answers of one caller's call for 0, 1, 2 .. in the order given. */
    void row(String call, long[] got, long... want) {
        is(call + " how many", got.length, want.length);
        for (int i = 0; i < Math.min(got.length, want.length); i++) {
            is(call + " number " + i, got[i], want[i]);
        }
    }

    void end() {
        System.out.println(test + ": " + asked + " answers, " + wrong + " not as due");
        if (wrong != 0) {
            System.exit(1);
        }
    }

    /** Writes the signs of a text into a new row of a sheet. */
    static void write(PitchRows x, int sheet, int lane, String text) {
        x.sheet(sheet, lane, text.length());
        for (int i = 0; i < text.length(); i++) {
            x.put(sheet, i, text.charAt(i));
        }
    }

    /** Writes numbers into a new row of ints. */
    static void cells(PitchRows x, int sheet, int... numbers) {
        x.sheet(sheet, 2, numbers.length);
        for (int i = 0; i < numbers.length; i++) {
            x.put(sheet, i, numbers[i]);
        }
    }

    /** What callers() answers to a text that is all of sheet 3. */
    static int told(PitchRows x, String text) {
        write(x, 3, 1, text);
        return x.callers(3, 1, 0, text.length());
    }

    /** A new object with the callers of a text. */
    static PitchRows with(String text) {
        PitchRows x = new PitchRows();
        told(x, text);
        return x;
    }

    /** What day() answers to a day of pairs that are all of sheet 0. */
    static int day(PitchRows x, int what, int... pairs) {
        cells(x, 0, pairs);
        return x.day(0, 2, 0, pairs.length / 2, what);
    }
}
