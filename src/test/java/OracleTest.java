import java.util.Random;

/** Random runs of calls, each answer held against the slow model's. */
public final class OracleTest {
    private static final int RUNS = 1000;
    /** What an object answers beyond these is free. */
    private static final int CALLS = 512;
    /** More than the calls of one round, and the digest behind the last. */
    private static final int ROUND = 50;
    private static final int[] ODD = {-1, -2, 10, 11, 20, 60, 61, 99, 100, -99, -100, 255, 256,
        Integer.MAX_VALUE, Integer.MIN_VALUE, Integer.MAX_VALUE - 3};

    private final Random random;
    private final CompassMarriage real = new CompassMarriage();
    private final Oracle model = new Oracle();
    private final String label;
    private int calls;

    private OracleTest(int seed) {
        random = new Random(seed);
        label = "run " + seed + ": ";
    }

    public static void main(String[] args) {
        for (int seed = 0; seed < RUNS && Check.wrongSoFar() == 0; seed++) {
            new OracleTest(seed).run();
        }
        Check.end();
    }

    private void run() {
        typeCouples();
        int enough = random.nextInt(CALLS - ROUND);
        while (calls < enough && Check.wrongSoFar() == 0) {
            switch (random.nextInt(6)) {
                case 0 -> changeWords();
                case 1 -> lookAtDays();
                case 2 -> plan();
                case 3 -> lookBack();
                default -> useSheets();
            }
        }
        due("digest()", real.digest(), model.digest());
        Check.isTrue(label + calls + " calls", calls <= CALLS);
    }

    private void due(String call, long got, long want) {
        calls++;
        Check.due(label + call, got, want);
    }

    /** From least to most, now and then beyond. */
    private int number(int least, int most) {
        int dice = random.nextInt(40);
        if (dice == 0) {
            return ODD[random.nextInt(ODD.length)];
        }
        return dice == 1 ? most + 1 : dice == 2 ? least - 1 : least + random.nextInt(most - least + 1);
    }

    private int aCouple() {
        int n = model.count(0);
        return n > 0 && random.nextInt(8) > 0 ? random.nextInt(n) : number(0, 7);
    }

    private void typeByte(int b) {
        due("type(" + b + ")", real.type(b), model.type(b));
    }

    private void typeCouples() {
        int n = 1 + random.nextInt(8);
        int near = random.nextBoolean() ? 10 : 4;
        for (int c = 0; c < n; c++) {
            if (c > 0) {
                typeByte(';');
            }
            typeByte('0' + random.nextInt(near));
            typeByte('0' + random.nextInt(near));
            typeByte('0' + random.nextInt(random.nextInt(4) == 0 ? 10 : 5));
            typeByte("slb".charAt(random.nextInt(3)));
        }
    }

    private void changeWords() {
        switch (random.nextInt(16)) {
            case 0 -> {
                due("wipe()", real.wipe(), model.wipe());
                typeCouples();
            }
            case 1 -> typeByte(number(0, 255));
            case 2, 3 -> typeByte("0123456789slb;:/".charAt(random.nextInt(16)));
            case 4, 5, 6 -> due("undo()", real.undo(), model.undo());
            case 7, 8 -> due("back()", real.back(), model.back());
            case 9 -> {
                int s = number(0, 3);
                due("read(" + s + ")", real.read(s), model.read(s));
            }
            default -> {
                int kind = number(0, 2);
                int day = number(0, 19);
                int c = aCouple();
                int v = number(0, 9);
                due("event(" + kind + ", " + day + ", " + c + ", " + v + ")",
                    real.event(kind, day, c, v), model.event(kind, day, c, v));
            }
        }
        due("fault()", real.fault(), model.fault());
    }

    private void lookAtDays() {
        int day = number(0, 19);
        int c = aCouple();
        int d = aCouple();
        int what = number(0, 4);
        due("couple(" + c + ", " + what + ")", real.couple(c, what), model.couple(c, what));
        due("at(" + day + ", " + c + ", " + what + ")", real.at(day, c, what), model.at(day, c, what));
        due("place(" + day + ", " + c + ", " + what + ")", real.place(day, c, what), model.place(day, c, what));
        due("are(" + day + ", " + c + ", " + d + ")", real.are(day, c, d), model.are(day, c, d));
        due("pairs(" + day + ", " + what + ")", real.pairs(day, what), model.pairs(day, what));
        due("closed(" + day + ")", real.closed(day), model.closed(day));
        due("holes()", real.holes(), model.holes());
        due("ringed(" + c + ")", real.ringed(c), model.ringed(c));
        due("meets(" + what + ")", real.meets(what), model.meets(what));
    }

    private void plan() {
        int day = number(0, 19);
        int c = aCouple();
        int what = number(0, 2);
        due("open(" + c + ", " + day + ", " + what + ")", real.open(c, day, what), model.open(c, day, what));
        due("stand(" + c + ", " + day + ", " + what + ")", real.stand(c, day, what), model.stand(c, day, what));
        due("swap(" + what + ")", real.swap(what), model.swap(what));
        int i = number(-1, 1);
        due("drop(" + i + ")", real.drop(i), model.drop(i));
    }

    private void lookBack() {
        int day = number(0, 19);
        int c = aCouple();
        int what = number(0, 1);
        switch (random.nextInt(8)) {
            case 0 -> {
                int x = number(-99, 99);
                int y = number(-99, 99);
                due("seen(" + day + ", " + c + ", " + x + ", " + y + ")", real.seen(day, c, x, y), model.seen(day, c, x, y));
            }
            case 1, 2, 3 -> {
                int x = model.place(day, c, 2);
                int y = model.place(day, c, 3);
                due("seen(" + day + ", " + c + ", " + x + ", " + y + ")", real.seen(day, c, x, y), model.seen(day, c, x, y));
            }
            case 4 -> due("forget()", real.forget(), model.forget());
            case 5 -> {
                int k = number(0, 16);
                due("gossip(" + k + ", " + day + ", " + what + ")", real.gossip(k, day, what), model.gossip(k, day, what));
            }
            default -> {
                int seed = random.nextInt();
                int n = number(0, 8);
                due("ages(" + seed + ", " + n + ", " + what + ")", real.ages(seed, n, what), model.ages(seed, n, what));
            }
        }
        due("never()", real.never(), model.never());
        due("was(" + c + ", " + what + ")", real.was(c, what), model.was(c, what));
        due("ask(" + c + ")", real.ask(c), model.ask(c));
    }

    private void useSheets() {
        int s = number(0, 3);
        int t = number(0, 3);
        int form = random.nextInt(4) == 0 ? number(0, 2) : 0;
        int i = number(0, 12);
        switch (random.nextInt(9)) {
            case 0 -> {
                int n = number(0, 30);
                due("sheet(" + s + ", " + form + ", " + n + ")", real.sheet(s, form, n), model.sheet(s, form, n));
            }
            case 1 -> {
                if (random.nextInt(4) == 0) {
                    due("lose(" + s + ")", real.lose(s), model.lose(s));
                }
            }
            case 2, 3, 4 -> {
                int v = random.nextInt(3) == 0 ? random.nextInt() : number(0, 9);
                due("put(" + s + ", " + form + ", " + i + ", " + v + ")", real.put(s, form, i, v), model.put(s, form, i, v));
            }
            case 5 -> {
                int j = number(0, 12);
                int n = number(0, 12);
                due("copy(" + s + ", " + i + ", " + t + ", " + j + ", " + n + ")",
                    real.copy(s, i, t, j, n), model.copy(s, i, t, j, n));
            }
            case 6 -> {
                int c = aCouple();
                due("write(" + c + ", " + s + ")", real.write(c, s), model.write(c, s));
            }
            case 7 -> due("get(" + s + ", " + form + ", " + i + ")", real.get(s, form, i), model.get(s, form, i));
            default -> {
                int what = number(0, 8);
                due("count(" + what + ")", real.count(what), model.count(what));
            }
        }
        for (int k = 0; k < 3; k++) {
            due("get(" + t + ", " + k + ", " + i + ")", real.get(t, k, i), model.get(t, k, i));
        }
        due("count(8)", real.count(8), model.count(8));
    }
}
