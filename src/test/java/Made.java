import java.util.ArrayList;
import java.util.List;
import java.util.function.Supplier;

/** Objects for tests to begin with, and all that can be seen of one. */
final class Made {
    static final int NONE = -1, BAD = -2, NOT = -3, FULL = -4;
    static final int NULL = -11, INDEX = -12, CAST = -13, STORE = -14, SIZE = -15;
    static final int LEAST = Integer.MIN_VALUE, MOST = Integer.MAX_VALUE;
    static final long LONG_BAD = Long.MIN_VALUE + 2;

    /** Eight couples in 39 bytes: all that a text can hold. */
    static final String EIGHT = "003l;402s;331b;990l;705l;054s;228b;869l";

    private Made() {
    }

    /** A call with one of its numbers left open. */
    interface Call {
        long with(CompassMarriage x, int v);
    }

    static CompassMarriage of(String text, int[]... events) {
        CompassMarriage x = new CompassMarriage();
        for (char sign : text.toCharArray()) {
            x.type(sign);
        }
        tell(x, events);
        return x;
    }

    static void tell(CompassMarriage x, int[]... events) {
        for (int[] e : events) {
            x.event(e[0], e[1], e[2], e[3]);
        }
    }

    static int[] screw(int day, int couple, int number) {
        return new int[] {0, day, couple, number};
    }

    static int[] change(int day, int couple) {
        return new int[] {1, day, couple, 0};
    }

    static int[] leave(int day, int couple) {
        return new int[] {2, day, couple, 0};
    }

    /** So many couples, alike but for where they stand: side by side from the left. */
    static String row(int couples, String spreadAndSort) {
        StringBuilder text = new StringBuilder();
        for (int c = 0; c < couples; c++) {
            text.append(c == 0 ? "" : ";").append(c).append('0').append(spreadAndSort);
        }
        return text.toString();
    }

    static void putAll(CompassMarriage x, int s, int form, int... items) {
        x.sheet(s, form, items.length);
        for (int i = 0; i < items.length; i++) {
            x.put(s, form, i, items[i]);
        }
    }

    /** Text, events, sightings all full; a sheet of each form, one lost; nothing found yet. */
    static CompassMarriage full() {
        CompassMarriage x = of(EIGHT, screw(13, 0, 2), screw(15, 1, 4), change(10, 2), leave(7, 3),
            change(2, 0), screw(2, 0, 3), leave(18, 5), change(19, 7));
        addSightings(x);
        addSheets(x);
        return x;
    }

    /** One couple, one event, one sighting, so that nothing is full; its sheets as those of full(). */
    static CompassMarriage some() {
        CompassMarriage x = of("003l;402s", screw(13, 0, 2));
        x.seen(0, 0, 0, 3);
        addSheets(x);
        return x;
    }

    private static void addSightings(CompassMarriage x) {
        int[] days = {0, 4, 9, 19};
        for (int i = 0; i < 8; i++) {
            int day = days[i % 4];
            x.seen(day, i, x.place(day, i, 2), x.place(day, i, 3));
        }
    }

    private static void addSheets(CompassMarriage x) {
        putAll(x, 0, 0, 1, -2, 3, -4, 5);
        putAll(x, 1, 1, 300, -300);
        putAll(x, 2, 2, 70000, -70000, LEAST + 1, 4);
    }

    /**
     * All that can be seen of it but the latest finding; looking uses it up: events, sightings, bytes and sheets
     * are taken away one by one.
     */
    static List<Long> portrait(CompassMarriage x) {
        List<Long> seen = new ArrayList<>();
        for (int what = 0; what <= 7; what++) {
            seen.add((long) x.count(what));
        }
        seen.add(x.digest());
        for (int s = 0; s < 4; s++) {
            addSheet(seen, x, s);
        }
        for (int left = 8; left > 0 && x.back() >= 0; left--) {
            seen.add(x.digest());
        }
        seen.add((long) x.forget());
        seen.add(x.digest());
        for (int left = 39; left > 0 && x.undo() >= 0; left--) {
            seen.add((long) x.fault());
        }
        return seen;
    }

    private static void addSheet(List<Long> seen, CompassMarriage x, int s) {
        for (int form = 0; form < 3; form++) {
            for (int i = 0; i < 8; i++) {
                seen.add((long) x.get(s, form, i));
            }
            seen.add((long) x.count(8));
        }
        seen.add((long) x.lose(s));
    }

    /**
     * From least to most the call is taken, right beyond them and far beyond it is refused;
     * a refused one, not being a finding, changes nothing at all.
     */
    static void range(String label, Supplier<CompassMarriage> make, Call call, int least, int most, long refusal) {
        for (int v = least; v <= most; v++) {
            long got = call.with(make.get(), v);
            Check.isTrue(label + ": " + v + " is taken", got != refusal);
        }
        for (int v : new int[] {least - 1, most + 1, LEAST, MOST}) {
            refused(label + ": " + v, make, x -> call.with(x, v), refusal);
        }
    }

    /** A call on a whole object. */
    interface Act {
        long on(CompassMarriage x);
    }

    /** The answer is the refusal, and nothing has changed behind it, but the latest finding if it is one. */
    static void refused(String label, Supplier<CompassMarriage> make, Act act, long refusal) {
        CompassMarriage x = make.get();
        CompassMarriage untouched = make.get();
        Check.due(label + " is refused", act.on(x), refusal);
        int finding = refusal <= NULL && refusal >= SIZE ? (int) (-10 - refusal) : untouched.count(8);
        Check.due(label + ": the latest finding", x.count(8), finding);
        Check.isTrue(label + " changes nothing", portrait(x).equals(portrait(untouched)));
    }
}
