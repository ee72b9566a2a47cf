import java.math.BigInteger;
import java.util.ArrayList;
import java.util.Arrays;
import java.util.HashMap;
import java.util.List;
import java.util.Map;
import java.util.TreeSet;
import java.util.function.IntSupplier;
import java.util.regex.Matcher;
import java.util.regex.Pattern;

/**
 * The document once more, told in another way and with all of Java, for ModelTest: kinds are
 * classes, free beats are null, sheets are arrays of their lane, faults are what the machine throws.
 */
final class Model {
    private static final int UNKNOWN = -1, OUTSIDE = -2, STATE = -3, FULL = -4, NONE = -9;
    private static final long LOST = Long.MIN_VALUE;

    interface Hailed {
        Model model();

        int number();

        default int hailed() {
            model().leave(4);
            return number();
        }
    }

    static class Plain implements Hailed {
        final Model model;
        final int number;
        final Integer[] call;

        Plain(Model model, int number, Integer[] call) {
            this.model = model;
            this.number = number;
            this.call = call;
        }

        @Override
        public Model model() {
            return model;
        }

        @Override
        public int number() {
            return number;
        }

        int kind() {
            return 0;
        }

        int countsAny(int own, TreeSet<Integer> heard) {
            return plainCounts(own, heard);
        }

        final int plainCounts(int own, TreeSet<Integer> heard) {
            return heard.contains(own) ? 1 : 0;
        }

        int telling() {
            return plainTelling();
        }

        final int plainTelling() {
            model.leave(1);
            return (int) Arrays.stream(call).filter(p -> p != null).count();
        }
    }

    static class Broad extends Plain {
        Broad(Model model, int number, Integer[] call) {
            super(model, number, call);
        }

        @Override
        int kind() {
            return 1;
        }

        @Override
        int countsAny(int own, TreeSet<Integer> heard) {
            return heard.contains(own) || heard.contains(own - 1) || heard.contains(own + 1) ? 1 : 0;
        }

        @Override
        int telling() {
            model.leave(2);
            return super.telling() + 100;
        }
    }

    static class Keen extends Broad {
        Keen(Model model, int number, Integer[] call) {
            super(model, number, call);
        }

        @Override
        int kind() {
            return 2;
        }

        @Override
        int countsAny(int own, TreeSet<Integer> heard) {
            return super.countsAny(own, heard) + plainCounts(own, heard);
        }

        @Override
        int telling() {
            model.leave(3);
            return super.telling() + plainTelling();
        }

        @Override
        public int hailed() {
            model.leave(5);
            return 60;
        }
    }

    private record Sending(int k, int moment, int high) { }

    private record Reading(int k, int whose, int late, int high, int v) { }

    /** What ends a day that has an act that can't be. */
    private record Day(List<Sending> sent, int wrong) { }

    private static final Map<Integer, List<String>> GOOD = new HashMap<>();

    private final List<Plain> callers = new ArrayList<>();
    private int beats;
    private final List<Sending> sendings = new ArrayList<>();
    private final List<Reading> readings = new ArrayList<>();
    private final Object[] sheets = new Object[4];
    private int trace;
    private int fault;

    private void leave(int body) {
        trace = trace * 31 + body;
    }

    private boolean noCaller(int k) {
        return k < 0 || k >= callers.size();
    }

    private static boolean not(int v, int least, int most) {
        return v < least || v > most;
    }

    private int faulty(IntSupplier call) {
        fault = 0;
        try {
            return call.getAsInt();
        } catch (NullPointerException e) {
            fault = 1;
        } catch (ClassCastException | ArrayStoreException e) {
            fault = 2;
        } catch (IndexOutOfBoundsException e) {
            fault = 3;
        } catch (NegativeArraySizeException e) {
            fault = 4;
        }
        return -10 - fault;
    }

    /** n cells of a sheet from i on, as the machine would give them. */
    private int[] taken(int sheet, int lane, int i, int n) {
        Object row = lane == 0 ? (byte[]) sheets[sheet] : lane == 1 ? (short[]) sheets[sheet] : (int[]) sheets[sheet];
        row.getClass();
        if (n < 0) {
            throw new NegativeArraySizeException();
        }
        Object part = java.lang.reflect.Array.newInstance(row.getClass().getComponentType(), n);
        System.arraycopy(row, i, part, 0, n);
        int[] cells = new int[n];
        for (int j = 0; j < n; j++) {
            cells[j] = (int) java.lang.reflect.Array.getLong(part, j);
        }
        return cells;
    }

    int callers(int sheet, int lane, int i, int n) {
        return faulty(() -> {
            if (not(sheet, 0, 3)) {
                return UNKNOWN;
            }
            if (not(lane, 0, 2)) {
                return OUTSIDE;
            }
            return take(taken(sheet, lane, i, n));
        });
    }

    private int take(int[] codes) {
        StringBuilder text = new StringBuilder();
        for (int code : codes) {
            text.append(code >= 0 && code < 128 ? (char) code : '!');
        }
        for (int n = 2; n <= 6; n++) {
            Pattern pattern = Pattern.compile("c" + n + "(;[pbk][0-" + (n - 1) + "-]{" + n + "}){1,4}");
            if (pattern.matcher(text).matches()) {
                makeAnew(text.substring(3).split(";"), n);
                return callers.size();
            }
        }
        int longest = 0;
        for (int end = 0; end <= text.length(); end++) {
            if (begins(text.substring(0, end))) {
                longest = end;
            }
        }
        return -100 - longest;
    }

    private static boolean begins(String start) {
        for (int n = 2; n <= 6; n++) {
            Pattern pattern = Pattern.compile("c" + n + "(;[pbk][0-" + (n - 1) + "-]{" + n + "}){1,4}");
            Matcher matcher = pattern.matcher(start);
            if (matcher.matches() || matcher.hitEnd()) {
                return true;
            }
        }
        return false;
    }

    private void makeAnew(String[] parts, int n) {
        beats = n;
        callers.clear();
        sendings.clear();
        readings.clear();
        for (String part : parts) {
            Integer[] call = new Integer[n];
            for (int i = 0; i < n; i++) {
                char sign = part.charAt(i + 1);
                call[i] = sign == '-' ? null : Integer.valueOf(sign - '0');
            }
            callers.add(ofKind("pbk".indexOf(part.charAt(0)), callers.size(), call));
        }
    }

    private Plain ofKind(int kind, int number, Integer[] call) {
        return switch (kind) {
            case 0 -> new Plain(this, number, call);
            case 1 -> new Broad(this, number, call);
            default -> new Keen(this, number, call);
        };
    }

    int ofCaller(int k, int what) {
        if (noCaller(k)) {
            return UNKNOWN;
        }
        if (not(what, 0, 2) && not(what, 10, 15)) {
            return OUTSIDE;
        }
        Integer[] call = callers.get(k).call;
        if (what == 0) {
            return callers.get(k).kind();
        }
        if (what == 1) {
            return free(call);
        }
        if (what == 2) {
            return good(beats).contains(signs(call)) ? 1 : 0;
        }
        return what - 10 >= beats || call[what - 10] == null ? NONE : call[what - 10];
    }

    private static int free(Integer[] call) {
        return (int) Arrays.stream(call).filter(p -> p == null).count();
    }

    private static String signs(Integer[] call) {
        StringBuilder signs = new StringBuilder();
        for (Integer pitch : call) {
            signs.append(pitch == null ? "-" : pitch.toString());
        }
        return signs.toString();
    }

    int tune(int k, int beat, int v) {
        if (noCaller(k) || not(beat, 0, beats - 1)) {
            return UNKNOWN;
        }
        if (not(v, -1, beats - 1)) {
            return OUTSIDE;
        }
        Integer was = callers.get(k).call[beat];
        callers.get(k).call[beat] = v < 0 ? null : Integer.valueOf(v);
        return was == null ? NONE : was;
    }

    private static int hearing(Plain caller, Integer[] call, int late, int high) {
        int sum = 0;
        for (int i = 0; i < call.length; i++) {
            for (int j = 0; j < call.length; j++) {
                if (j == i + late && call[i] != null && caller.call[j] != null) {
                    sum += caller.countsAny(caller.call[j], new TreeSet<>(List.of(call[i] + high)));
                }
            }
        }
        return sum;
    }

    int hears(int k, int whose, int late, int high) {
        if (noCaller(k) || noCaller(whose)) {
            return UNKNOWN;
        }
        if (not(late, -5, 5) || not(high, -5, 5)) {
            return OUTSIDE;
        }
        return hearing(callers.get(k), callers.get(whose).call, late, high);
    }

    int send(int k, int moment, int high) {
        if (noCaller(k)) {
            return UNKNOWN;
        }
        if (not(moment, 0, 20) || not(high, 0, 5)) {
            return OUTSIDE;
        }
        if (sendings.size() == 8) {
            return FULL;
        }
        sendings.add(new Sending(k, moment, high));
        return sendings.size() - 1;
    }

    private static int cut(List<?> list, int m) {
        if (not(m, 0, list.size())) {
            return OUTSIDE;
        }
        list.subList(list.size() - m, list.size()).clear();
        return list.size();
    }

    int unsend(int m) {
        return cut(sendings, m);
    }

    private TreeSet<Integer> sounding(List<Sending> sent, int moment) {
        TreeSet<Integer> set = new TreeSet<>();
        for (Sending s : sent) {
            Integer[] call = callers.get(s.k()).call;
            for (int i = 0; i < beats; i++) {
                if (s.moment() + i == moment && call[i] != null) {
                    set.add(call[i] + s.high());
                }
            }
        }
        return set;
    }

    int air(int moment) {
        if (not(moment, 0, 25)) {
            return OUTSIDE;
        }
        if (callers.isEmpty()) {
            return STATE;
        }
        return sounding(sendings, moment).stream().mapToInt(p -> 1 << p).sum();
    }

    private int listening(List<Sending> sent, int k, int moment) {
        int sum = 0;
        Plain caller = callers.get(k);
        for (int i = 0; i < beats; i++) {
            if (caller.call[i] != null) {
                sum += caller.countsAny(caller.call[i], sounding(sent, moment + i));
            }
        }
        return sum;
    }

    int listen(int k, int moment) {
        if (noCaller(k)) {
            return UNKNOWN;
        }
        return not(moment, 0, 25) ? OUTSIDE : listening(sendings, k, moment);
    }

    private int mostListened(List<Sending> sent, int k) {
        int most = 0;
        for (int t = 0; t <= 25; t++) {
            most = Math.max(most, listening(sent, k, t));
        }
        return most;
    }

    int loudest(int k, int what) {
        if (noCaller(k)) {
            return UNKNOWN;
        }
        if (not(what, 0, 1)) {
            return OUTSIDE;
        }
        int most = mostListened(sendings, k);
        int moment = 0;
        while (listening(sendings, k, moment) != most) {
            moment++;
        }
        return what == 0 ? moment : most;
    }

    int day(int sheet, int lane, int i, int n, int what) {
        return faulty(() -> {
            if (not(sheet, 0, 3)) {
                return UNKNOWN;
            }
            if (not(lane, 0, 2) || not(n, 0, 20) || not(what, 0, 4) && not(what, 10, 13)) {
                return OUTSIDE;
            }
            if (callers.isEmpty()) {
                return STATE;
            }
            int[] cells = taken(sheet, lane, i, 2 * n);
            for (int p = 0; p < n; p++) {
                int first = cells[2 * p];
                switch (cells[2 * p + 1]) {
                    case 0, 1, 2, 3 -> {
                        if (not(first, 0, 20)) {
                            return OUTSIDE;
                        }
                    }
                    case 9 -> {
                        if (not(first, 0, 8)) {
                            return OUTSIDE;
                        }
                    }
                    default -> {
                        return OUTSIDE;
                    }
                }
            }
            Day day = dayOf(cells, n);
            if (what == 1) {
                return day.wrong();
            }
            return day.wrong() != NONE ? -100 - day.wrong() : ofDay(day.sent(), what);
        });
    }

    private Day dayOf(int[] cells, int n) {
        List<Sending> sent = new ArrayList<>(sendings);
        for (int p = 0; p < n; p++) {
            int first = cells[2 * p];
            int second = cells[2 * p + 1];
            if (second == 9) {
                if (cut(sent, first) < 0) {
                    return new Day(sent, p);
                }
            } else if (noCaller(second) || sent.size() == 8) {
                return new Day(sent, p);
            } else {
                sent.add(new Sending(second, first, 0));
            }
        }
        return new Day(sent, NONE);
    }

    private int ofDay(List<Sending> sent, int what) {
        int moments = 0;
        int last = NONE;
        int firstOfTwo = NONE;
        for (int t = 0; t <= 25; t++) {
            int size = sounding(sent, t).size();
            moments += size > 0 ? 1 : 0;
            last = size > 0 ? t : last;
            firstOfTwo = size > 1 && firstOfTwo == NONE ? t : firstOfTwo;
        }
        return switch (what) {
            case 0 -> sent.size();
            case 2 -> moments;
            case 3 -> last;
            case 4 -> firstOfTwo;
            default -> noCaller(what - 10) ? NONE : mostListened(sent, what - 10);
        };
    }

    /** What a caller hears of a call by each shift, late then high, {late, high, how much}. */
    private List<int[]> byShifts(Plain caller, Integer[] call) {
        List<int[]> all = new ArrayList<>();
        for (int late = -5; late <= 5; late++) {
            for (int high = -5; high <= 5; high++) {
                all.add(new int[] {late, high, hearing(caller, call, late, high)});
            }
        }
        return all;
    }

    private List<int[]> byShiftsButNone(Plain caller) {
        List<int[]> all = byShifts(caller, caller.call);
        all.removeIf(s -> s[0] == 0 && s[1] == 0);
        return all;
    }

    int peak(int k, int what) {
        if (noCaller(k)) {
            return UNKNOWN;
        }
        if (not(what, 0, 2)) {
            return OUTSIDE;
        }
        List<int[]> all = byShiftsButNone(callers.get(k));
        int most = all.stream().mapToInt(s -> s[2]).max().getAsInt();
        int[] first = all.stream().filter(s -> s[2] == most).findFirst().get();
        return first[(what + 2) % 3];
    }

    int clash(int k, int whose) {
        if (noCaller(k) || noCaller(whose)) {
            return UNKNOWN;
        }
        return byShifts(callers.get(k), callers.get(whose).call).stream().mapToInt(s -> s[2]).max().getAsInt();
    }

    /** All good rows of n beats as texts, in their order, by trying each row whose pitches are unlike. */
    private List<String> good(int n) {
        return GOOD.computeIfAbsent(n, beatsOf -> {
            List<String> good = new ArrayList<>();
            tryAll(new Integer[beatsOf], 0, good);
            return good;
        });
    }

    private void tryAll(Integer[] row, int at, List<String> good) {
        if (at == row.length) {
            boolean unlike = Arrays.stream(row).distinct().count() == row.length;
            if (unlike && byShiftsButNone(new Plain(this, 0, row)).stream().allMatch(s -> s[2] <= 1)) {
                good.add(signs(row));
            }
            return;
        }
        for (int v = 0; v < row.length; v++) {
            row[at] = v;
            tryAll(row, at + 1, good);
        }
    }

    int rows() {
        return callers.isEmpty() ? STATE : good(beats).size();
    }

    private int beatOf(String row, int i) {
        return row == null || i >= beats ? NONE : row.charAt(i) - '0';
    }

    int ways(int k, int i) {
        if (noCaller(k)) {
            return UNKNOWN;
        }
        if (not(i, -1, 5)) {
            return OUTSIDE;
        }
        String pattern = signs(callers.get(k).call).replace('-', '.');
        List<String> like = good(beats).stream().filter(r -> r.matches(pattern)).toList();
        return i == -1 ? like.size() : beatOf(like.isEmpty() ? null : like.get(0), i);
    }

    int next(int k, int i) {
        if (noCaller(k)) {
            return UNKNOWN;
        }
        if (not(i, 0, 5)) {
            return OUTSIDE;
        }
        String call = signs(callers.get(k).call);
        if (call.contains("-")) {
            return STATE;
        }
        return beatOf(good(beats).stream().filter(r -> r.compareTo(call) > 0).findFirst().orElse(null), i);
    }

    int reading(int k, int whose, int late, int high, int v) {
        if (noCaller(k) || noCaller(whose)) {
            return UNKNOWN;
        }
        if (not(late, -5, 5) || not(high, -5, 5) || not(v, 0, 20)) {
            return OUTSIDE;
        }
        if (readings.size() == 8) {
            return FULL;
        }
        readings.add(new Reading(k, whose, late, high, v));
        return readings.size() - 1;
    }

    int back(int m) {
        return cut(readings, m);
    }

    private boolean allSo(Plain instead) {
        List<Plain> all = new ArrayList<>(callers);
        all.set(instead.number, instead);
        return readings.stream().allMatch(
                r -> hearing(all.get(r.k()), all.get(r.whose()).call, r.late(), r.high()) == r.v());
    }

    int kinds(int k) {
        if (noCaller(k)) {
            return UNKNOWN;
        }
        int set = 0;
        for (int kind = 0; kind < 3; kind++) {
            set += allSo(ofKind(kind, k, callers.get(k).call)) ? 1 << kind : 0;
        }
        return set;
    }

    int pitches(int k, int beat) {
        if (noCaller(k) || not(beat, 0, beats - 1)) {
            return UNKNOWN;
        }
        int set = 0;
        for (int v = 0; v < beats; v++) {
            Integer[] call = callers.get(k).call.clone();
            call[beat] = v;
            set += allSo(ofKind(callers.get(k).kind(), k, call)) ? 1 << v : 0;
        }
        return set;
    }

    long odds(int k, int v, int which) {
        if (noCaller(k) || not(v, 0, 20) || not(which, 0, 1)) {
            return LOST;
        }
        List<int[]> all = byShiftsButNone(callers.get(k));
        BigInteger upper = BigInteger.valueOf(all.stream().filter(s -> s[2] >= v).count());
        BigInteger lower = BigInteger.valueOf(all.size());
        return (which == 0 ? upper : lower).divide(upper.gcd(lower)).longValue();
    }

    int sheet(int k, int lane, int n) {
        return faulty(() -> {
            if (not(k, 0, 3)) {
                return UNKNOWN;
            }
            if (not(lane, 0, 2) || n > 60) {
                return OUTSIDE;
            }
            sheets[k] = lane == 0 ? new byte[n] : lane == 1 ? new short[n] : new int[n];
            return 1;
        });
    }

    int lose(int k) {
        if (not(k, 0, 3)) {
            return UNKNOWN;
        }
        int had = sheets[k] == null ? 0 : 1;
        sheets[k] = null;
        return had;
    }

    int put(int k, int i, int v) {
        return faulty(() -> {
            if (not(k, 0, 3)) {
                return UNKNOWN;
            }
            if (sheets[k] instanceof byte[] bytes) {
                bytes[i] = (byte) v;
            } else if (sheets[k] instanceof short[] shorts) {
                shorts[i] = (short) v;
            } else {
                ((int[]) sheets[k])[i] = v;
            }
            return 1;
        });
    }

    long cell(int k, int i, int lane) {
        long[] cell = {LOST};
        faulty(() -> {
            if (not(k, 0, 3) || not(lane, 0, 2)) {
                return OUTSIDE;
            }
            cell[0] = switch (lane) {
                case 0 -> ((byte[]) sheets[k])[i];
                case 1 -> ((short[]) sheets[k])[i];
                default -> ((int[]) sheets[k])[i];
            };
            return 0;
        });
        return cell[0];
    }

    int copy(int k, int i, int other, int j, int n) {
        return faulty(() -> {
            if (not(k, 0, 3) || not(other, 0, 3)) {
                return UNKNOWN;
            }
            System.arraycopy(sheets[k], i, sheets[other], j, n);
            return n;
        });
    }

    int tell(int k) {
        return noCaller(k) ? UNKNOWN : callers.get(k).telling();
    }

    int hail(int k) {
        return noCaller(k) ? UNKNOWN : callers.get(k).hailed();
    }

    int as(int k, int kind) {
        return faulty(() -> {
            if (noCaller(k)) {
                return UNKNOWN;
            }
            if (not(kind, 0, 2)) {
                return OUTSIDE;
            }
            Class<?> wanted = kind == 0 ? Plain.class : kind == 1 ? Broad.class : Keen.class;
            wanted.cast(callers.get(k));
            return 1;
        });
    }

    int trace() {
        return trace;
    }

    int fault() {
        return fault;
    }

    int many(int what) {
        return switch (what) {
            case 0 -> callers.size();
            case 1 -> beats;
            case 2 -> sendings.size();
            case 3 -> callers.stream().mapToInt(c -> free(c.call)).sum();
            case 4 -> readings.size();
            default -> OUTSIDE;
        };
    }
}
