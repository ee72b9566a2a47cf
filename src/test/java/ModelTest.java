import java.lang.reflect.Method;
import java.lang.reflect.Modifier;
import java.util.ArrayList;
import java.util.Arrays;
import java.util.Comparator;
import java.util.List;
import java.util.Random;

/** Long runs of chance calls (always the same ones), each answered as Model answers it. */
public final class ModelTest {
    private static final int RUNS = 400;
    private static final int CALLS = 512;
    private static final int[] FAR = {Integer.MIN_VALUE, Integer.MAX_VALUE, -100, 100, 61, 21, 26, -2, 256};

    private final Random chance;
    private final PitchRows real = new PitchRows();
    private final Model model = new Model();
    private final Due due;
    private final List<String> calls = new ArrayList<>();
    private final List<Method> methods = new ArrayList<>();

    private ModelTest(Due due, int run) {
        this.due = due;
        chance = new Random(run);
        for (Method method : PitchRows.class.getDeclaredMethods()) {
            if (Modifier.isPublic(method.getModifiers())) {
                methods.add(method);
            }
        }
        methods.sort(Comparator.comparing(Method::getName));
    }

    public static void main(String[] args) throws ReflectiveOperationException {
        Due due = new Due("ModelTest");
        boolean same = true;
        for (int run = 0; run < RUNS && same; run++) {
            same = new ModelTest(due, run).isSame();
        }
        due.end();
    }

    private boolean isSame() throws ReflectiveOperationException {
        boolean same = true;
        while (same && calls.size() < CALLS) {
            int turn = chance.nextInt(40);
            if (turn == 0) {
                same = tellText();
            } else if (turn == 1) {
                same = tellDay();
            } else if (turn < 5) {
                same = trueReading();
            } else {
                same = anyCall();
            }
        }
        return same;
    }

    private boolean ask(Method method, int... args) throws ReflectiveOperationException {
        if (calls.size() >= CALLS) {
            return true;
        }
        Object[] boxed = Arrays.stream(args).boxed().toArray();
        String call = method.getName() + Arrays.toString(args);
        calls.add(call);
        Method told = Model.class.getDeclaredMethod(method.getName(), method.getParameterTypes());
        long want = ((Number) told.invoke(model, boxed)).longValue();
        long got = ((Number) method.invoke(real, boxed)).longValue();
        due.is(call, got, want);
        if (got != want) {
            System.out.println("the run: " + calls);
        }
        return got == want;
    }

    private boolean ask(String name, int... args) throws ReflectiveOperationException {
        for (Method method : methods) {
            if (method.getName().equals(name)) {
                return ask(method, args);
            }
        }
        throw new IllegalArgumentException(name);
    }

    private int number() {
        int turn = chance.nextInt(50);
        if (turn == 0) {
            return FAR[chance.nextInt(FAR.length)];
        }
        return turn < 30 ? chance.nextInt(4) : turn < 40 ? chance.nextInt(8) - 2 : chance.nextInt(30) - 6;
    }

    private boolean anyCall() throws ReflectiveOperationException {
        Method method = methods.get(chance.nextInt(methods.size()));
        if (method.getName().equals("callers") && chance.nextInt(4) > 0) {
            return true;
        }
        int[] args = new int[method.getParameterCount()];
        for (int i = 0; i < args.length; i++) {
            args[i] = number();
        }
        return ask(method, args);
    }

    private boolean write(int sheet, int lane, int[] cells) throws ReflectiveOperationException {
        boolean same = ask("sheet", sheet, lane, cells.length);
        for (int i = 0; i < cells.length && same; i++) {
            same = ask("put", sheet, i, cells[i]);
        }
        return same;
    }

    /** A text, now and then with one code that is wrong, or a part of it. */
    private boolean tellText() throws ReflectiveOperationException {
        int beats = 2 + chance.nextInt(5);
        StringBuilder text = new StringBuilder("c").append(beats);
        int callers = 1 + chance.nextInt(chance.nextInt(8) == 0 ? 5 : 4);
        for (int k = 0; k < callers; k++) {
            text.append(';').append("pbk".charAt(chance.nextInt(3)));
            boolean isWhole = chance.nextBoolean();
            for (int i = 0; i < beats; i++) {
                boolean isFree = !isWhole && chance.nextInt(3) == 0;
                text.append(isFree ? "-" : String.valueOf(chance.nextInt(beats)));
            }
        }
        int[] codes = text.chars().toArray();
        if (chance.nextInt(4) == 0) {
            int code = "cpbk;-0123456789 ".charAt(chance.nextInt(17));
            codes[chance.nextInt(codes.length)] = code + chance.nextInt(2) * 256;
        }
        int sheet = chance.nextInt(4);
        int lane = chance.nextInt(3);
        int n = chance.nextInt(4) == 0 ? chance.nextInt(codes.length + 1) : codes.length;
        return write(sheet, lane, codes) && ask("callers", sheet, lane, 0, n) && ask("fault");
    }

    private boolean tellDay() throws ReflectiveOperationException {
        int pairs = chance.nextInt(21);
        int[] cells = new int[2 * pairs];
        int callers = 1 + model.many(0);
        for (int p = 0; p < pairs; p++) {
            boolean isBack = chance.nextInt(3) == 0;
            cells[2 * p] = isBack ? chance.nextInt(4) : chance.nextInt(21);
            cells[2 * p + 1] = isBack ? 9 : chance.nextInt(Math.min(4, callers));
            if (chance.nextInt(60) == 0) {
                cells[2 * p + chance.nextInt(2)] = number();
            }
        }
        int sheet = chance.nextInt(4);
        int lane = chance.nextInt(3);
        boolean same = write(sheet, lane, cells);
        for (int asked = 0; asked < 14 && same; asked++) {
            int what = chance.nextInt(9);
            same = ask("day", sheet, lane, 0, chance.nextInt(pairs + 1), what < 5 ? what : what + 5);
        }
        return same;
    }

    /** A reading of what is so now, that kinds() and pitches() may answer more than nothing. */
    private boolean trueReading() throws ReflectiveOperationException {
        int callers = Math.max(1, model.many(0));
        int k = chance.nextInt(callers);
        int whose = chance.nextInt(callers);
        int late = chance.nextInt(5) - 2;
        int high = chance.nextInt(5) - 2;
        int v = Math.max(0, model.hears(k, whose, late, high));
        int beat = chance.nextInt(6);
        boolean isFull = model.many(4) == 8;
        return (!isFull || ask("back", 6))
                && ask("reading", k, whose, late, high, v)
                && ask("kinds", k)
                && ask("pitches", k, beat)
                && ask("pitches", whose, beat);
    }
}
