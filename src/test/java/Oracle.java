import java.math.BigInteger;
import java.util.ArrayList;
import java.util.Arrays;
import java.util.HashMap;
import java.util.HashSet;
import java.util.List;
import java.util.Map;
import java.util.Set;

/**
 * The document said once more, as slowly and plainly as can be: every day is gone through one by one,
 * every plan is tried whole. The class is held against it.
 */
final class Oracle {
    static final int NONE = -1, BAD = -2, NOT = -3, FULL = -4;

    record Told(int x, int y, int spread, char sort) {
    }

    record Event(int kind, int day, int couple, int number) {
    }

    record Seen(int day, int couple, int x, int y) {
    }

    /** One couple on its way. */
    static final class State {
        int px, py, lx, ly, spread, way, arcs, sighs;
        boolean left;
        char sort;

        void setLeg() {
            lx = px;
            ly = py;
            switch (way) {
                case 0 -> lx += spread;
                case 1 -> ly += spread;
                case 2 -> lx -= spread;
                default -> ly -= spread;
            }
        }
    }

    private final StringBuilder text = new StringBuilder();
    private final List<Event> events = new ArrayList<>();
    private final List<Seen> sightings = new ArrayList<>();
    private final Object[] sheets = new Object[4];
    private int latest;

    // ---- couples

    private List<Told> couples() {
        List<Told> list = new ArrayList<>();
        if (fault() != NONE || text.length() == 0) {
            return list;
        }
        for (String part : text.toString().split(";")) {
            list.add(new Told(part.charAt(0) - '0', part.charAt(1) - '0', part.charAt(2) - '0', part.charAt(3)));
        }
        return list;
    }

    int type(int b) {
        if (b < 0 || b > 255) {
            return BAD;
        }
        if (text.length() == 39) {
            return FULL;
        }
        text.append((char) b);
        return text.length();
    }

    int wipe() {
        int n = text.length();
        text.setLength(0);
        return n;
    }

    int undo() {
        if (text.length() == 0) {
            return NOT;
        }
        text.setLength(text.length() - 1);
        return text.length();
    }

    /** A longest beginning that some well text begins with, too; the end, if the text itself is not well. */
    int fault() {
        String all = text.toString();
        String couple = "[0-9]{3}[slb]";
        String begun = "([0-9]{0,3}|" + couple + ")";
        String beginning = "(" + couple + ";){0,7}" + begun;
        for (int n = 1; n <= all.length(); n++) {
            if (!all.substring(0, n).matches(beginning)) {
                return n - 1;
            }
        }
        boolean well = all.isEmpty() || all.matches("(" + couple + ";){0,7}" + couple);
        return well ? NONE : all.length();
    }

    int couple(int c, int what) {
        List<Told> list = couples();
        if (c < 0 || c >= list.size() || what < 0 || what > 3) {
            return BAD;
        }
        Told t = list.get(c);
        return new int[] {t.x, t.y, t.spread, "slb".indexOf(t.sort)}[what];
    }

    // ---- events

    private static boolean mayBe(int kind, int day, int couple, int number) {
        return kind >= 0 && kind <= 2 && day >= 0 && day <= 19 && couple >= 0 && couple <= 7 && number >= 0 && number <= 9;
    }

    int event(int kind, int day, int couple, int number) {
        if (!mayBe(kind, day, couple, number)) {
            return BAD;
        }
        if (events.size() == 8) {
            return FULL;
        }
        events.add(new Event(kind, day, couple, number));
        return events.size();
    }

    int back() {
        if (events.isEmpty()) {
            return NOT;
        }
        events.remove(events.size() - 1);
        return events.size();
    }

    int read(int s) {
        if (s < 0 || s > 3) {
            return BAD;
        }
        if (sheets[s] == null) {
            return find(1);
        }
        int n = 0;
        for (int i = 0; i < lengthOf(s) / 4; i++) {
            if (event(item(s, 4 * i), item(s, 4 * i + 1), item(s, 4 * i + 2), item(s, 4 * i + 3)) < 0) {
                break;
            }
            n++;
        }
        return n;
    }

    // ---- days

    /** Every couple behind every day: states.get(day)[couple]. */
    private static List<State[]> goThrough(List<Told> told, List<Event> list) {
        List<State[]> days = new ArrayList<>();
        State[] now = new State[told.size()];
        for (int c = 0; c < now.length; c++) {
            State s = new State();
            s.px = told.get(c).x;
            s.py = told.get(c).y;
            s.spread = told.get(c).spread;
            s.sort = told.get(c).sort;
            s.setLeg();
            now[c] = s;
        }
        for (int day = 0; day <= 19; day++) {
            for (Event e : list) {
                if (e.day == day && e.couple < now.length) {
                    happen(now[e.couple], e);
                }
            }
            for (State s : now) {
                int times = s.sort == 'b' ? 2 : s.sort == 's' && day % 2 == 1 ? 0 : 1;
                for (int i = 0; i < times && !s.left && s.spread >= 1; i++) {
                    s.way = s.way == 3 ? 0 : s.way + 1;
                    s.arcs = s.arcs == 4 ? 4 : s.arcs + 1;
                }
                s.setLeg();
            }
            days.add(Arrays.stream(now).map(Oracle::same).toArray(State[]::new));
        }
        return days;
    }

    private static void happen(State s, Event e) {
        switch (e.kind) {
            case 0 -> {
                s.spread = e.number;
                s.arcs = 0;
            }
            case 1 -> {
                s.px = s.lx;
                s.py = s.ly;
                s.way = new int[] {2, 3, 0, 1}[s.way];
                if (s.arcs >= 1 && s.arcs <= 3) {
                    s.sighs++;
                }
                s.arcs = 0;
            }
            default -> s.left = true;
        }
        s.setLeg();
    }

    private static State same(State s) {
        State t = new State();
        t.px = s.px;
        t.py = s.py;
        t.lx = s.lx;
        t.ly = s.ly;
        t.spread = s.spread;
        t.way = s.way;
        t.arcs = s.arcs;
        t.sighs = s.sighs;
        t.left = s.left;
        t.sort = s.sort;
        return t;
    }

    private State[] behind(int day) {
        return goThrough(couples(), events).get(day);
    }

    private boolean has(int c) {
        return c >= 0 && c < couples().size();
    }

    private static boolean isDay(int day) {
        return day >= 0 && day <= 19;
    }

    int at(int day, int c, int what) {
        if (!isDay(day) || !has(c) || what < 0 || what > 4) {
            return BAD;
        }
        State s = behind(day)[c];
        return new int[] {s.spread, s.way, s.arcs, s.left ? 1 : 0, s.sighs}[what];
    }

    int place(int day, int c, int what) {
        if (!isDay(day) || !has(c) || what < 0 || what > 3) {
            return Integer.MIN_VALUE;
        }
        State s = behind(day)[c];
        return new int[] {s.px, s.py, s.lx, s.ly}[what];
    }

    private static int two(State a, State b) {
        if (a.px == b.px && a.py == b.py && a.spread == b.spread) {
            return 5;
        }
        int d = (a.px - b.px) * (a.px - b.px) + (a.py - b.py) * (a.py - b.py);
        int sum = (a.spread + b.spread) * (a.spread + b.spread);
        int dif = (a.spread - b.spread) * (a.spread - b.spread);
        return d > sum ? 0 : d == sum ? 1 : d < dif ? 4 : d == dif ? 3 : 2;
    }

    int are(int day, int one, int other) {
        if (!isDay(day) || !has(one) || !has(other) || one == other) {
            return BAD;
        }
        return two(behind(day)[one], behind(day)[other]);
    }

    private static int talked(State[] all) {
        return pairsOf(all, Set.of(2));
    }

    private static int pairsOf(State[] all, Set<Integer> what) {
        int n = 0;
        for (int i = 0; i < all.length; i++) {
            for (int j = 0; j < i; j++) {
                if (all[i].arcs == 4 && all[j].arcs == 4 && what.contains(two(all[j], all[i]))) {
                    n++;
                }
            }
        }
        return n;
    }

    int pairs(int day, int what) {
        if (!isDay(day) || what < 0 || what > 1) {
            return BAD;
        }
        return pairsOf(behind(day), what == 0 ? Set.of(2) : Set.of(1, 3));
    }

    int closed(int day) {
        if (!isDay(day)) {
            return BAD;
        }
        int bits = 0;
        State[] all = behind(day);
        for (int i = 0; i < all.length; i++) {
            bits += all[i].arcs == 4 ? 1 << i : 0;
        }
        return bits;
    }

    int holes() {
        Set<String> set = new HashSet<>();
        for (State[] all : goThrough(couples(), events)) {
            for (State s : all) {
                set.add(s.px + "," + s.py);
            }
        }
        return set.size();
    }

    int ringed(int c) {
        if (!has(c)) {
            return BAD;
        }
        List<State[]> days = goThrough(couples(), events);
        for (int day = 0; day <= 19; day++) {
            if (days.get(day)[c].arcs == 4) {
                return day;
            }
        }
        return NONE;
    }

    int meets(int what) {
        if (what < 0 || what > 2) {
            return BAD;
        }
        List<State[]> days = goThrough(couples(), events);
        for (int day = 0; day <= 19; day++) {
            State[] all = days.get(day);
            for (int i = 0; i < all.length; i++) {
                for (int j = i + 1; j < all.length; j++) {
                    if (all[i].lx == all[j].lx && all[i].ly == all[j].ly) {
                        return new int[] {day, i, j}[what];
                    }
                }
            }
        }
        return NONE;
    }

    // ---- plans

    private static List<Told> with(List<Told> list, int c, Told t) {
        List<Told> changed = new ArrayList<>(list);
        changed.set(c, t);
        return changed;
    }

    private static int othersOf(State[] all, int c, Set<Integer> what) {
        int n = 0;
        for (int i = 0; i < all.length; i++) {
            n += i != c && what.contains(two(all[c], all[i])) ? 1 : 0;
        }
        return n;
    }

    int open(int c, int day, int what) {
        if (!has(c) || !isDay(day) || what < 0 || what > 1) {
            return BAD;
        }
        List<Told> list = couples();
        Told own = list.get(c);
        int which = -1;
        int fewest = 1000;
        for (int s = 0; s <= 9; s++) {
            List<Told> other = with(list, c, new Told(own.x, own.y, s, own.sort));
            int n = othersOf(goThrough(other, events).get(day), c, Set.of(2));
            if (n < fewest) {
                fewest = n;
                which = s;
            }
        }
        return what == 0 ? which : fewest;
    }

    int stand(int c, int day, int what) {
        if (!has(c) || !isDay(day) || what < 0 || what > 2) {
            return BAD;
        }
        List<Told> list = couples();
        Told own = list.get(c);
        int[] best = {0, 0, -1};
        for (int x = 0; x <= 9; x++) {
            for (int y = 0; y <= 9; y++) {
                List<Told> other = with(list, c, new Told(x, y, own.spread, own.sort));
                int n = othersOf(goThrough(other, events).get(day), c, Set.of(1, 3));
                if (n > best[2]) {
                    best = new int[] {x, y, n};
                }
            }
        }
        return best[what];
    }

    int swap(int what) {
        if (what < 0 || what > 2) {
            return BAD;
        }
        List<Told> list = couples();
        int[] best = {NONE, NONE, NONE};
        for (int i = 0; i < list.size(); i++) {
            for (int j = i + 1; j < list.size(); j++) {
                Told a = list.get(i);
                Told b = list.get(j);
                List<Told> other = with(list, i, new Told(a.x, a.y, b.spread, a.sort));
                other = with(other, j, new Told(b.x, b.y, a.spread, b.sort));
                int n = talked(goThrough(other, events).get(19));
                if (best[2] == NONE || n < best[2]) {
                    best = new int[] {i, j, n};
                }
            }
        }
        return best[what];
    }

    private boolean quietWithout(Set<Integer> gone) {
        return talked(goThrough(couples(), eventsWithout(gone)).get(19)) == 0;
    }

    private List<Event> eventsWithout(Set<Integer> gone) {
        List<Event> list = new ArrayList<>();
        for (int k = 0; k < events.size(); k++) {
            if (!gone.contains(k)) {
                list.add(events.get(k));
            }
        }
        return list;
    }

    int drop(int i) {
        if (i < -1 || i > 1) {
            return BAD;
        }
        int n = events.size();
        List<List<Integer>> rows = new ArrayList<>();
        rows.add(List.of());
        for (int a = 0; a < n; a++) {
            rows.add(List.of(a));
        }
        for (int a = 0; a < n; a++) {
            for (int b = a + 1; b < n; b++) {
                rows.add(List.of(a, b));
            }
        }
        for (List<Integer> row : rows) {
            if (quietWithout(new HashSet<>(row))) {
                return i == -1 ? row.size() : i < row.size() ? row.get(i) : NONE;
            }
        }
        return NONE;
    }

    // ---- seen, gossip, ages

    int seen(int day, int c, int x, int y) {
        if (!isDay(day) || c < 0 || c > 7 || Math.abs((long) x) > 99 || Math.abs((long) y) > 99) {
            return BAD;
        }
        if (sightings.size() == 8) {
            return FULL;
        }
        sightings.add(new Seen(day, c, x, y));
        return sightings.size();
    }

    int forget() {
        int n = sightings.size();
        sightings.clear();
        return n;
    }

    private boolean comesOut(List<Told> told, List<Event> list) {
        List<State[]> days = goThrough(told, list);
        return sightings.stream().allMatch(s -> s.couple < told.size()
                && days.get(s.day)[s.couple].lx == s.x && days.get(s.day)[s.couple].ly == s.y);
    }

    int never() {
        int bits = 0;
        for (int k = 0; k < events.size(); k++) {
            bits += comesOut(couples(), eventsWithout(Set.of(k))) ? 1 << k : 0;
        }
        return bits;
    }

    int was(int c, int what) {
        if (!has(c) || what < 0 || what > 1) {
            return BAD;
        }
        List<Told> list = couples();
        Told own = list.get(c);
        int bits = 0;
        for (int v = 0; v < (what == 0 ? 10 : 3); v++) {
            Told t = what == 0 ? new Told(own.x, own.y, v, own.sort) : new Told(own.x, own.y, own.spread, "slb".charAt(v));
            bits += comesOut(with(list, c, t), events) ? 1 << v : 0;
        }
        return bits;
    }

    int ask(int c) {
        if (!has(c)) {
            return BAD;
        }
        List<Told> list = couples();
        Told own = list.get(c);
        int wide = was(c, 0);
        int best = -1;
        int least = 1000;
        for (int day = 0; day <= 19; day++) {
            Map<String, Integer> groups = new HashMap<>();
            for (int s = 0; s <= 9; s++) {
                if ((wide & 1 << s) != 0) {
                    State state = goThrough(with(list, c, new Told(own.x, own.y, s, own.sort)), events).get(day)[c];
                    groups.merge(state.lx + "," + state.ly, 1, Integer::sum);
                }
            }
            int greatest = groups.values().stream().mapToInt(n -> n).max().orElse(0);
            if (greatest < least) {
                least = greatest;
                best = day;
            }
        }
        return best;
    }

    long gossip(int c, int day, int what) {
        if (c < 0 || c > 16 || !isDay(day) || what < 0 || what > 1) {
            return Long.MIN_VALUE + 2;
        }
        BigInteger above = BigInteger.ZERO;
        int n = events.size();
        for (int mask = 0; mask < 1 << n; mask++) {
            Set<Integer> gone = new HashSet<>();
            BigInteger chance = BigInteger.ONE;
            for (int k = 0; k < n; k++) {
                boolean is = (mask & 1 << k) != 0;
                chance = chance.multiply(BigInteger.valueOf(is ? c : 16 - c));
                if (!is) {
                    gone.add(k);
                }
            }
            if (chance.signum() > 0 && talked(goThrough(couples(), eventsWithout(gone)).get(day)) > 0) {
                above = above.add(chance);
            }
        }
        BigInteger below = BigInteger.valueOf(16).pow(n);
        BigInteger common = above.gcd(below);
        return (what == 0 ? above : below).divide(common).longValueExact();
    }

    int ages(int seed, int n, int what) {
        if (n < 0 || n > 8 || what < 0 || what > 1) {
            return BAD;
        }
        List<Told> list = couples();
        int[] holder = {seed};
        List<Event> other = new ArrayList<>();
        for (int k = 0; k < n && !list.isEmpty(); k++) {
            int kind = lot(holder, 3);
            int day = lot(holder, 20);
            int c = lot(holder, list.size());
            other.add(new Event(kind, day, c, lot(holder, 10)));
        }
        State[] all = goThrough(list, other).get(19);
        return what == 0 ? talked(all) : (int) Arrays.stream(all).filter(s -> s.arcs == 4).count();
    }

    private static int lot(int[] holder, int m) {
        long next = 1103515245L * holder[0] + 12345L;
        holder[0] = (int) next;
        return (int) ((next >> 16 & 0xFFFF) % m);
    }

    // ---- sheets

    private int find(int number) {
        latest = number;
        return -10 - number;
    }

    private int lengthOf(int s) {
        return sheets[s] instanceof byte[] b ? b.length : sheets[s] instanceof short[] h ? h.length : ((int[]) sheets[s]).length;
    }

    private int item(int s, int i) {
        return sheets[s] instanceof byte[] b ? b[i] : sheets[s] instanceof short[] h ? h[i] : ((int[]) sheets[s])[i];
    }

    private void setItem(int s, int i, int v) {
        if (sheets[s] instanceof byte[] b) {
            b[i] = (byte) v;
        } else if (sheets[s] instanceof short[] h) {
            h[i] = (short) v;
        } else {
            ((int[]) sheets[s])[i] = v;
        }
    }

    private int formOf(int s) {
        return sheets[s] instanceof byte[] ? 0 : sheets[s] instanceof short[] ? 1 : 2;
    }

    int sheet(int s, int form, int n) {
        if (s < 0 || s > 3 || form < 0 || form > 2 || n > 60) {
            return BAD;
        }
        if (n < 0) {
            return find(5);
        }
        sheets[s] = form == 0 ? new byte[n] : form == 1 ? new short[n] : new int[n];
        return n;
    }

    int lose(int s) {
        if (s < 0 || s > 3) {
            return BAD;
        }
        if (sheets[s] == null) {
            return find(1);
        }
        int n = lengthOf(s);
        sheets[s] = null;
        return n;
    }

    private int reach(int s, int form, int i) {
        if (s < 0 || s > 3 || form < 0 || form > 2) {
            return BAD;
        }
        if (sheets[s] == null) {
            return find(1);
        }
        if (formOf(s) != form) {
            return find(3);
        }
        return i < 0 || i >= lengthOf(s) ? find(2) : 1;
    }

    int put(int s, int form, int i, int v) {
        int may = reach(s, form, i);
        if (may == 1) {
            setItem(s, i, v);
        }
        return may;
    }

    int get(int s, int form, int i) {
        return reach(s, form, i) == 1 ? item(s, i) : Integer.MIN_VALUE;
    }

    int copy(int s, int i, int t, int j, int n) {
        if (s < 0 || s > 3 || t < 0 || t > 3) {
            return BAD;
        }
        if (sheets[s] == null || sheets[t] == null) {
            return find(1);
        }
        if (formOf(s) != formOf(t)) {
            return find(4);
        }
        if (i < 0 || j < 0 || n < 0 || (long) i + n > lengthOf(s) || (long) j + n > lengthOf(t)) {
            return find(2);
        }
        int[] kept = new int[n];
        for (int k = 0; k < n; k++) {
            kept[k] = item(s, i + k);
        }
        for (int k = 0; k < n; k++) {
            setItem(t, j + k, kept[k]);
        }
        return 1;
    }

    int write(int c, int s) {
        if (!has(c) || s < 0 || s > 3) {
            return BAD;
        }
        if (sheets[s] == null) {
            return find(1);
        }
        int n = 0;
        for (; n < lengthOf(s) && n < 20; n++) {
            setItem(s, n, at(n, c, 2));
        }
        return n;
    }

    int count(int what) {
        return switch (what) {
            case 0 -> couples().size();
            case 1 -> text.length();
            case 2 -> events.size();
            case 3 -> pairs(19, 0);
            case 4 -> pairs(19, 1);
            case 5 -> Integer.bitCount(closed(19));
            case 6 -> Arrays.stream(behind(19)).mapToInt(s -> s.sighs).sum();
            case 7 -> sightings.size();
            case 8 -> latest;
            default -> BAD;
        };
    }

    long digest() {
        List<Long> list = new ArrayList<>();
        for (int w = 0; w < 8; w++) {
            list.add((long) count(w));
        }
        list.add((long) fault());
        int n = couples().size();
        for (int c = 0; c < n; c++) {
            for (int w = 0; w < 4; w++) {
                list.add((long) couple(c, w));
            }
            for (int day : new int[] {0, 6, 12, 19}) {
                for (int w = 0; w < 5; w++) {
                    list.add((long) at(day, c, w));
                }
                for (int w = 0; w < 4; w++) {
                    list.add((long) place(day, c, w));
                }
            }
            for (int v : new int[] {ringed(c), open(c, 12, 0), open(c, 12, 1), stand(c, 12, 0), stand(c, 12, 1),
                stand(c, 12, 2), was(c, 0), was(c, 1), ask(c)}) {
                list.add((long) v);
            }
        }
        for (int i = 0; i < n; i++) {
            for (int j = i + 1; j < n; j++) {
                list.add((long) are(9, i, j));
                list.add((long) are(19, i, j));
            }
        }
        for (int day = 0; day < 20; day++) {
            for (int v : new int[] {pairs(day, 0), pairs(day, 1), closed(day)}) {
                list.add((long) v);
            }
        }
        for (int v : new int[] {holes(), meets(0), meets(1), meets(2), swap(0), swap(1), swap(2), drop(-1), drop(0), never()}) {
            list.add((long) v);
        }
        list.add(gossip(5, 14, 0));
        list.add(gossip(5, 14, 1));
        list.add((long) ages(7, 6, 0));
        list.add((long) ages(7, 6, 1));
        BigInteger h = BigInteger.valueOf(17);
        for (long v : list) {
            h = h.multiply(BigInteger.valueOf(31)).add(BigInteger.valueOf(v));
        }
        return h.longValue();
    }
}
