import java.util.ArrayList;
import java.util.List;

/** Each promise by examples worked out by hand from the document: ordinary ones, its edges, wrong inputs. */
public final class PromisesTest {
    private static final int NONE = -1, BAD = -2, NOT = -3, FULL = -4;
    private static final int NULL = -11, INDEX = -12, CAST = -13, STORE = -14, SIZE = -15;
    private static final int LEAST = Integer.MIN_VALUE, MOST = Integer.MAX_VALUE;
    private static final int SCREW = 0, CHANGE = 1, LEFT = 2;

    public static void main(String[] args) {
        newObject();
        type();
        wipe();
        undo();
        fault();
        couple();
        event();
        back();
        read();
        at();
        place();
        are();
        pairs();
        closed();
        holes();
        ringed();
        meets();
        open();
        stand();
        swap();
        drop();
        seen();
        forget();
        never();
        was();
        ask();
        gossip();
        ages();
        sheet();
        lose();
        put();
        get();
        copy();
        write();
        count();
        digest();
        Check.end();
    }

    private static void due(String call, long got, long want) {
        Check.due(call, got, want);
    }

    private static void typeIn(CompassMarriage x, String text) {
        for (char sign : text.toCharArray()) {
            x.type(sign);
        }
    }

    private static CompassMarriage of(String text) {
        CompassMarriage x = new CompassMarriage();
        typeIn(x, text);
        return x;
    }

    private static void newObject() {
        CompassMarriage x = new CompassMarriage();
        for (int what = 0; what <= 8; what++) {
            due("1 count(" + what + ")", x.count(what), 0);
        }
        for (int s = 0; s < 4; s++) {
            due("1 lose(" + s + ")", x.lose(s), NULL);
        }
        due("1 fault", x.fault(), NONE);
    }

    private static void type() {
        CompassMarriage x = new CompassMarriage();
        due("2 below", x.type(-1), BAD);
        due("2 above", x.type(256), BAD);
        due("2 least int", x.type(LEAST), BAD);
        due("2 first", x.type(0), 1);
        due("2 last byte", x.type(255), 2);
        for (int n = 3; n <= 39; n++) {
            due("2 byte " + n, x.type('0'), n);
        }
        due("2 full", x.type('0'), FULL);
        due("2 bad ahead of full", x.type(256), BAD);
        due("2 refusals change nothing", x.count(1), 39);
    }

    private static void wipe() {
        CompassMarriage x = of("123s;456l");
        x.event(SCREW, 0, 0, 1);
        due("3 wipe", x.wipe(), 9);
        due("3 couples", x.count(0), 0);
        due("3 bytes", x.count(1), 0);
        due("3 events stay", x.count(2), 1);
        due("3 fault", x.fault(), NONE);
        due("3 wipe of nothing", x.wipe(), 0);
    }

    private static void undo() {
        CompassMarriage x = of("123s;");
        due("4 fault", x.fault(), 5);
        due("4 undo", x.undo(), 4);
        due("4 well again", x.fault(), NONE);
        due("4 couples", x.count(0), 1);
        for (int n = 3; n >= 0; n--) {
            due("4 left " + n, x.undo(), n);
        }
        due("4 empty", x.undo(), NOT);
        due("4 bytes", x.count(1), 0);
    }

    private static void fault() {
        String[] wrong = {"x", "/", ":", "0x", "00:", "000", "000S", "0000", "000s:", "000s;", "000s;9", "000s;99",
            "000s;999", "000s;9s", "000s;;", ";", "000s;000l;000b;00", "000sx00l"};
        int[] places = {0, 0, 0, 1, 2, 3, 3, 3, 4, 5, 6, 7, 8, 6, 5, 0, 17, 4};
        for (int i = 0; i < wrong.length; i++) {
            CompassMarriage x = of(wrong[i]);
            due("5 fault of " + wrong[i], x.fault(), places[i]);
            due("5 as if empty: " + wrong[i], x.count(0), 0);
        }
        due("5 empty", new CompassMarriage().fault(), NONE);
        CompassMarriage most = of("000s;111l;222b;333s;444l;555b;666s;777l");
        due("5 eight", most.fault(), NONE);
        due("5 eight couples", most.count(0), 8);
        due("5 no ninth", most.type(';'), FULL);
        most.undo();
        due("5 eighth not ended", most.fault(), 38);
        due("5 none then", most.count(0), 0);
    }

    private static void couple() {
        CompassMarriage x = of("123s;456l;780b");
        int[][] want = {{1, 2, 3, 0}, {4, 5, 6, 1}, {7, 8, 0, 2}};
        for (int c = 0; c < 3; c++) {
            for (int what = 0; what < 4; what++) {
                due("6 couple(" + c + ", " + what + ")", x.couple(c, what), want[c][what]);
            }
        }
        due("6 below", x.couple(-1, 0), BAD);
        due("6 above", x.couple(3, 0), BAD);
        due("6 what below", x.couple(0, -1), BAD);
        due("6 what above", x.couple(0, 4), BAD);
        x.event(SCREW, 0, 0, 9);
        due("6 as told", x.couple(0, 2), 3);
        x.type(';');
        due("6 with a fault", x.couple(0, 0), BAD);
    }

    private static void event() {
        CompassMarriage x = new CompassMarriage();
        int[][] wrong = {{-1, 0, 0, 0}, {3, 0, 0, 0}, {0, -1, 0, 0}, {0, 20, 0, 0}, {0, 0, -1, 0}, {0, 0, 8, 0},
            {0, 0, 0, -1}, {0, 0, 0, 10}, {LEAST, MOST, LEAST, MOST}};
        for (int[] e : wrong) {
            due("7 bad", x.event(e[0], e[1], e[2], e[3]), BAD);
        }
        due("7 none", x.count(2), 0);
        due("7 least", x.event(0, 0, 0, 0), 1);
        due("7 most", x.event(2, 19, 7, 9), 2);
        for (int n = 3; n <= 8; n++) {
            due("7 event " + n, x.event(SCREW, n, 0, n), n);
        }
        due("7 full", x.event(0, 0, 0, 0), FULL);
        due("7 bad ahead of full", x.event(0, 0, 0, 10), BAD);
        due("7 count", x.count(2), 8);
    }

    private static void back() {
        CompassMarriage x = of("003l");
        due("8 none", x.back(), NOT);
        x.event(SCREW, 5, 0, 4);
        x.event(SCREW, 2, 0, 7);
        x.event(SCREW, 8, 0, 1);
        due("8 at 19", x.at(19, 0, 0), 1);
        due("8 back", x.back(), 2);
        due("8 last is undone", x.at(19, 0, 0), 4);
        due("8 back again", x.back(), 1);
        due("8 the one told last, not the latest", x.at(4, 0, 0), 3);
        due("8 the other stays", x.at(5, 0, 0), 4);
        due("8 to none", x.back(), 0);
        due("8 none left", x.back(), NOT);
    }

    private static void putAll(CompassMarriage x, int s, int form, int... items) {
        x.sheet(s, form, items.length);
        for (int i = 0; i < items.length; i++) {
            x.put(s, form, i, items[i]);
        }
    }

    private static void read() {
        CompassMarriage x = of("003l;553s");
        due("9 no such", x.read(-1), BAD);
        due("9 no such either", x.read(4), BAD);
        due("9 lost", x.read(2), NULL);
        due("9 finding", x.count(8), 1);
        putAll(x, 0, 0, SCREW, 3, 0, 5, LEFT, 4, 1, 0, CHANGE, 6, 0);
        due("9 whole ones", x.read(0), 2);
        due("9 events", x.count(2), 2);
        due("9 spread", x.at(3, 0, 0), 5);
        due("9 left", x.at(4, 1, 3), 1);
        putAll(x, 1, 2, SCREW, 0, 0, 0, SCREW, 20, 0, 0, SCREW, 0, 0, 0);
        due("9 until one may not be", x.read(1), 1);
        due("9 behind those told", x.count(2), 3);
        putAll(x, 2, 1, -1, 0, 0, 0, SCREW, 0, 0, 0);
        due("9 first may not be", x.read(2), 0);
        putAll(x, 3, 1, 0, 0, 0);
        due("9 none whole", x.read(3), 0);
        x.sheet(3, 2, 60);
        due("9 until full", x.read(3), 5);
        due("9 full", x.count(2), 8);
        due("9 none more", x.read(3), 0);
        CompassMarriage y = of("003l");
        putAll(y, 0, 2, SCREW, 0, 0, 256);
        due("9 int as it is", y.read(0), 0);
        putAll(y, 0, 0, SCREW, 0, 0, 256);
        due("9 byte as it has become", y.read(0), 1);
    }

    private static void at() {
        CompassMarriage x = of("113l;113s;113b;110l");
        int[][] ways = {{1, 2, 3, 0, 1}, {1, 1, 2, 2, 3}, {2, 0, 2, 0, 2}, {0, 0, 0, 0, 0}};
        int[][] arcs = {{1, 2, 3, 4, 4}, {1, 1, 2, 2, 3}, {2, 4, 4, 4, 4}, {0, 0, 0, 0, 0}};
        for (int c = 0; c < 4; c++) {
            for (int day = 0; day < 5; day++) {
                due("10 way " + c + " on " + day, x.at(day, c, 1), ways[c][day]);
                due("10 arcs " + c + " on " + day, x.at(day, c, 2), arcs[c][day]);
            }
        }
        due("10 spread", x.at(19, 0, 0), 3);
        due("10 not left", x.at(19, 0, 3), 0);
        due("10 no sighs", x.at(19, 0, 4), 0);
        due("10 day below", x.at(-1, 0, 0), BAD);
        due("10 day above", x.at(20, 0, 0), BAD);
        due("10 no such", x.at(0, 4, 0), BAD);
        due("10 no such below", x.at(0, -1, 0), BAD);
        due("10 what below", x.at(0, 0, -1), BAD);
        due("10 what above", x.at(0, 0, 5), BAD);
        atWithEvents();
        atWithEventsOfOneDay();
    }

    private static void atWithEvents() {
        CompassMarriage x = of("113l");
        x.event(SCREW, 2, 0, 5);
        due("10 screw: spread", x.at(2, 0, 0), 5);
        due("10 screw: way goes on", x.at(2, 0, 1), 3);
        due("10 screw: arcs anew", x.at(2, 0, 2), 1);
        due("10 screw: no sigh", x.at(2, 0, 4), 0);
        x.event(CHANGE, 4, 0, 7);
        due("10 change: way", x.at(4, 0, 1), 3);
        due("10 change: arcs", x.at(4, 0, 2), 1);
        due("10 change: sigh", x.at(4, 0, 4), 1);
        due("10 change: not yet", x.at(3, 0, 4), 0);
        x.event(CHANGE, 8, 0, 0);
        due("10 closed before", x.at(7, 0, 2), 4);
        due("10 no sigh of a closed one", x.at(8, 0, 4), 1);
        x.event(LEFT, 10, 0, 3);
        due("10 left not yet", x.at(9, 0, 3), 0);
        due("10 left", x.at(10, 0, 3), 1);
        due("10 left: way stays", x.at(10, 0, 1), x.at(9, 0, 1));
        due("10 left: arcs stay", x.at(19, 0, 2), 2);
        due("10 left: spread stays", x.at(19, 0, 0), 5);
        x.event(SCREW, 12, 0, 2);
        due("10 left and screwed", x.at(12, 0, 0), 2);
        due("10 left and screwed: arcs", x.at(19, 0, 2), 0);
        CompassMarriage y = of("113l");
        y.event(SCREW, 1, 0, 0);
        due("10 of spread 0: way", y.at(19, 0, 1), 1);
        due("10 of spread 0: arcs", y.at(19, 0, 2), 0);
        y.event(CHANGE, 0, 0, 0);
        due("10 change of nothing drawn", y.at(0, 0, 4), 0);
        y.event(SCREW, 0, 5, 9);
        due("10 event of nobody", y.at(0, 0, 0), 3);
    }

    private static void atWithEventsOfOneDay() {
        CompassMarriage x = of("113l");
        x.event(CHANGE, 1, 0, 0);
        x.event(SCREW, 1, 0, 5);
        due("11 change, then screw", x.place(1, 0, 1), 4);
        CompassMarriage y = of("113l");
        y.event(SCREW, 1, 0, 5);
        y.event(CHANGE, 1, 0, 0);
        due("11 screw, then change", y.place(1, 0, 1), 6);
        due("10 sigh ahead of the screw", x.at(1, 0, 4), 1);
        due("10 no sigh behind the screw", y.at(1, 0, 4), 0);
    }

    private static void place() {
        CompassMarriage x = of("123l");
        int[][] legs = {{1, 5}, {-2, 2}, {1, -1}, {4, 2}};
        for (int day = 0; day < 20; day++) {
            due("11 point x", x.place(day, 0, 0), 1);
            due("11 point y", x.place(day, 0, 1), 2);
            due("11 leg x on " + day, x.place(day, 0, 2), legs[day % 4][0]);
            due("11 leg y on " + day, x.place(day, 0, 3), legs[day % 4][1]);
        }
        x.event(CHANGE, 2, 0, 0);
        due("11 change: point x", x.place(2, 0, 0), -2);
        due("11 change: point y", x.place(2, 0, 1), 2);
        due("11 change: leg x", x.place(2, 0, 2), -2);
        due("11 change: leg y", x.place(2, 0, 3), 5);
        due("11 day below", x.place(-1, 0, 0), LEAST);
        due("11 day above", x.place(20, 0, 0), LEAST);
        due("11 no such", x.place(0, 1, 0), LEAST);
        due("11 no such below", x.place(0, -1, 0), LEAST);
        due("11 what below", x.place(0, 0, -1), LEAST);
        due("11 what above", x.place(0, 0, 4), LEAST);
    }

    private static void are() {
        String[] texts = {"002l;502l", "002l;402s", "002l;302b", "005l;203l", "005l;103l", "002l;002s", "000l;000l",
            "000l;100l", "000l;404l", "001l;904l", "002l;344l", "005l;345l"};
        int[] want = {0, 1, 2, 3, 4, 5, 5, 0, 1, 0, 2, 2};
        for (int i = 0; i < texts.length; i++) {
            due("12 " + texts[i], of(texts[i]).are(0, 0, 1), want[i]);
            due("12 the other way " + texts[i], of(texts[i]).are(0, 1, 0), want[i]);
        }
        CompassMarriage x = of("002l;402s");
        x.event(SCREW, 7, 1, 3);
        due("12 the day before", x.are(6, 0, 1), 1);
        due("12 as they are", x.are(7, 0, 1), 2);
        due("12 one and the same", x.are(0, 1, 1), BAD);
        due("12 no such", x.are(0, 0, 2), BAD);
        due("12 no such below", x.are(0, -1, 0), BAD);
        due("12 day below", x.are(-1, 0, 1), BAD);
        due("12 day above", x.are(20, 0, 1), BAD);
    }

    private static void pairs() {
        CompassMarriage x = of("003l;303l;903b;005s");
        // 0 and 1 cross, 1 and 2 touch, 0 and 3 are within, 1 and 3 cross, 2 and 3 are apart.
        due("13 none closed", x.pairs(2, 0), 0);
        due("13 talked on 3", x.pairs(3, 0), 1);
        due("13 neighbours on 2", x.pairs(2, 1), 0);
        due("13 neighbours on 3", x.pairs(3, 1), 1);
        due("13 the stiff one not yet", x.pairs(5, 0), 1);
        due("13 the stiff one", x.pairs(6, 0), 2);
        due("13 from within", of("005l;203l").pairs(3, 1), 1);
        due("13 alike", of("005l;005l").pairs(3, 0) + of("005l;005l").pairs(3, 1), 0);
        due("13 what below", x.pairs(0, -1), BAD);
        due("13 what above", x.pairs(0, 2), BAD);
        due("13 day below", x.pairs(-1, 0), BAD);
        due("13 day above", x.pairs(20, 0), BAD);
    }

    private static void closed() {
        CompassMarriage x = of("001l;001s;001b;000b");
        int[] want = {0, 4, 4, 5, 5, 5, 7, 7};
        for (int day = 0; day < want.length; day++) {
            due("14 closed on " + day, x.closed(day), want[day]);
        }
        x.event(SCREW, 19, 0, 2);
        due("14 screwed", x.closed(19), 6);
        due("14 left ones too", leftOnDay(4).closed(19), 1);
        due("14 left too soon", leftOnDay(3).closed(19), 0);
        due("14 below", x.closed(-1), BAD);
        due("14 above", x.closed(20), BAD);
    }

    private static CompassMarriage leftOnDay(int day) {
        CompassMarriage x = of("001l");
        x.event(LEFT, day, 0, 0);
        return x;
    }

    private static void holes() {
        due("15 none", new CompassMarriage().holes(), 0);
        CompassMarriage x = of("113l;113s;553l");
        due("15 two alike", x.holes(), 2);
        x.event(CHANGE, 4, 0, 0);
        due("15 changed over", x.holes(), 3);
        x.event(CHANGE, 4, 0, 0);
        due("15 and over again on that day", x.holes(), 2);
        CompassMarriage y = of("113l");
        y.event(CHANGE, 0, 0, 0);
        due("15 from the first day on", y.holes(), 1);
        y.event(CHANGE, 19, 0, 0);
        due("15 to the last day", y.holes(), 2);
    }

    private static void ringed() {
        CompassMarriage x = of("001l;001s;001b;000b");
        int[] want = {3, 6, 1, NONE};
        for (int c = 0; c < 4; c++) {
            due("16 ringed(" + c + ")", x.ringed(c), want[c]);
        }
        x.event(SCREW, 2, 0, 5);
        x.event(SCREW, 16, 3, 5);
        x.event(LEFT, 6, 1, 0);
        due("16 screwed", x.ringed(0), 5);
        due("16 late", x.ringed(3), 17);
        due("16 left", x.ringed(1), NONE);
        due("16 below", x.ringed(-1), BAD);
        due("16 above", x.ringed(4), BAD);
    }

    private static void meets() {
        // Legs of 1: (0,3), (-3,0), (0,-3), (3,0); of 2: (1,1), (0,0), (1,-1), (2,0); of 3 its point (0,0).
        CompassMarriage x = of("991l;003l;101l;000l");
        int[] want = {1, 2, 3};
        for (int what = 0; what < 3; what++) {
            due("17 meets(" + what + ")", x.meets(what), want[what]);
        }
        x.event(LEFT, 0, 2, 0);
        due("17 never", x.meets(0), NONE);
        due("17 never, least", x.meets(1), NONE);
        due("17 never, other", x.meets(2), NONE);
        due("17 below", x.meets(-1), BAD);
        due("17 above", x.meets(3), BAD);
        due("17 none", new CompassMarriage().meets(2), NONE);
        CompassMarriage y = of("330l;110l;330s;110l");
        due("17 least one", y.meets(1), 0);
        due("17 least other one with it", y.meets(2), 2);
    }

    private static void open() {
        CompassMarriage x = of("003l;403l");
        due("18 the least", x.open(0, 3, 0), 0);
        due("18 how many", x.open(0, 3, 1), 0);
        // By the spread as told the point comes to (spread, 0), then it is 3 wide: alike at 4 alone.
        x.event(CHANGE, 0, 0, 0);
        x.event(SCREW, 0, 0, 3);
        due("18 which", x.open(0, 19, 0), 4);
        due("18 how many then", x.open(0, 19, 1), 0);
        x.event(SCREW, 5, 0, 2);
        due("18 not closed too", x.open(0, 0, 0), 4);
        // 2 wide it touches the other one, 3 wide, from within when it is 1 away: at 3, the first that crosses nobody.
        due("18 another day", x.open(0, 5, 0), 3);
        CompassMarriage y = of("003l;403l");
        y.event(SCREW, 0, 0, 3);
        due("18 whatever it is", y.open(0, 0, 0), 0);
        due("18 it crosses", y.open(0, 0, 1), 1);
        due("18 the day is bad", y.open(0, 20, 0), BAD);
        due("18 the day is bad below", y.open(0, -1, 0), BAD);
        due("18 no such", y.open(2, 0, 0), BAD);
        due("18 no such below", y.open(-1, 0, 0), BAD);
        due("18 what above", y.open(0, 0, 2), BAD);
        due("18 what below", y.open(0, 0, -1), BAD);
        due("18 told as before", y.couple(0, 2), 3);
    }

    private static void stand() {
        CompassMarriage x = of("992l;502l");
        due("19 x", x.stand(0, 0, 0), 1);
        due("19 y", x.stand(0, 0, 1), 0);
        due("19 how many", x.stand(0, 0, 2), 1);
        due("19 told as before", x.couple(0, 0), 9);
        CompassMarriage two = of("992l;502l;542l");
        // 4 away from (5,0) are (1,0), (9,0) and (5,4) alone; 4 away from (5,4) are (1,4), (9,4), (5,0) and (5,8).
        due("19 two: how many", two.stand(0, 0, 2), 1);
        CompassMarriage three = of("992l;042l;402l");
        // (0,0) is 4 away from both.
        due("19 both: x", three.stand(0, 0, 0), 0);
        due("19 both: y", three.stand(0, 0, 1), 0);
        due("19 both", three.stand(0, 0, 2), 2);
        CompassMarriage within = of("991l;553l");
        // 1 wide touches 3 wide from outside by 4: (1,5), from within by 2: (3,5); the least x is 1.
        due("19 within: x", within.stand(0, 0, 0), 1);
        due("19 within: y", within.stand(0, 0, 1), 5);
        CompassMarriage alone = of("553l");
        due("19 alone: x", alone.stand(0, 0, 0), 0);
        due("19 alone: y", alone.stand(0, 0, 1), 0);
        due("19 alone", alone.stand(0, 0, 2), 0);
        CompassMarriage moved = of("992l;502l");
        // Changed over on day 0 it stands by 2 more x than told; from (0,0) to (2,9) none comes to where it touches.
        moved.event(CHANGE, 0, 0, 0);
        due("19 moved: x", moved.stand(0, 0, 0), 3);
        due("19 moved: y", moved.stand(0, 0, 1), 4);
        due("19 what above", x.stand(0, 0, 3), BAD);
        due("19 what below", x.stand(0, 0, -1), BAD);
        due("19 no such", x.stand(2, 0, 0), BAD);
        due("19 day above", x.stand(0, 20, 0), BAD);
        due("19 day below", x.stand(0, -1, 0), BAD);
    }

    private static void swap() {
        CompassMarriage x = of("003l;403l;990l");
        due("20 first", x.swap(0), 0);
        due("20 other", x.swap(1), 2);
        due("20 how many", x.swap(2), 0);
        due("20 told as before", x.couple(0, 2), 3);
        CompassMarriage two = of("003l;403l");
        due("20 two: first", two.swap(0), 0);
        due("20 two: other", two.swap(1), 1);
        due("20 two: how many", two.swap(2), 1);
        CompassMarriage one = of("003l");
        for (int what = 0; what < 3; what++) {
            due("20 less than two", one.swap(what), NONE);
        }
        due("20 what below", one.swap(-1), BAD);
        due("20 what above", one.swap(3), BAD);
    }

    private static void drop() {
        CompassMarriage x = of("003l;401l");
        due("21 nothing to drop", x.drop(NONE), 0);
        due("21 no first", x.drop(0), NONE);
        x.event(LEFT, 19, 0, 0);
        x.event(SCREW, 0, 1, 3);
        due("21 one", x.drop(NONE), 1);
        due("21 which", x.drop(0), 1);
        due("21 no second", x.drop(1), NONE);
        x.event(SCREW, 1, 1, 3);
        due("21 two", x.drop(NONE), 2);
        due("21 the first", x.drop(0), 1);
        due("21 the second", x.drop(1), 2);
        x.event(SCREW, 2, 1, 3);
        due("21 not by two", x.drop(NONE), NONE);
        due("21 not by two, the first", x.drop(0), NONE);
        due("21 not by two, the second", x.drop(1), NONE);
        CompassMarriage y = of("003l;401l");
        y.event(SCREW, 1, 1, 3);
        y.event(SCREW, 0, 1, 3);
        due("21 the first two", y.drop(0), 0);
        due("21 the second of them", y.drop(1), 1);
        CompassMarriage z = of("003l;401l");
        z.event(SCREW, 0, 1, 3);
        z.event(SCREW, 17, 0, 3);
        due("21 nobody closed", z.drop(NONE), 0);
        z.event(SCREW, 17, 1, 1);
        z.back();
        z.back();
        due("21 the very first", z.drop(0), 0);
        due("21 below", x.drop(-2), BAD);
        due("21 above", x.drop(2), BAD);
    }

    private static void seen() {
        CompassMarriage x = new CompassMarriage();
        int[][] wrong = {{-1, 0, 0, 0}, {20, 0, 0, 0}, {0, -1, 0, 0}, {0, 8, 0, 0}, {0, 0, -100, 0}, {0, 0, 100, 0},
            {0, 0, 0, -100}, {0, 0, 0, 100}, {0, 0, LEAST, MOST}};
        for (int[] s : wrong) {
            due("22 bad", x.seen(s[0], s[1], s[2], s[3]), BAD);
        }
        due("22 least", x.seen(0, 0, -99, -99), 1);
        due("22 most", x.seen(19, 7, 99, 99), 2);
        for (int n = 3; n <= 8; n++) {
            due("22 seen " + n, x.seen(n, 0, n, -n), n);
        }
        due("22 full", x.seen(0, 0, 0, 0), FULL);
        due("22 bad ahead of full", x.seen(20, 0, 0, 0), BAD);
        due("22 count", x.count(7), 8);
    }

    private static void forget() {
        CompassMarriage x = of("002l");
        due("23 nothing", x.forget(), 0);
        x.seen(0, 0, 9, 9);
        x.seen(0, 0, 8, 8);
        due("23 none fits", x.was(0, 0), 0);
        due("23 forget", x.forget(), 2);
        due("23 count", x.count(7), 0);
        due("23 all fit", x.was(0, 0), 1023);
    }

    private static void never() {
        CompassMarriage x = of("002l;553s");
        due("24 no events", x.never(), 0);
        x.event(SCREW, 0, 0, 4);
        x.event(SCREW, 0, 0, 3);
        x.event(SCREW, 9, 1, 3);
        due("24 nothing seen", x.never(), 7);
        x.seen(0, 0, 0, 3);
        due("24 the first or the third", x.never(), 5);
        x.seen(1, 0, -4, 0);
        due("24 none", x.never(), 0);
        x.forget();
        x.seen(0, 0, 0, 4);
        due("24 the second alone", x.never(), 2);
        x.seen(0, 2, 0, 0);
        due("24 one that there is not", x.never(), 0);
    }

    private static void was() {
        CompassMarriage x = of("002l;553s");
        due("25 nothing seen: wide", x.was(0, 0), 1023);
        due("25 nothing seen: sort", x.was(0, 1), 7);
        x.seen(0, 0, 0, 7);
        due("25 wide", x.was(0, 0), 1 << 7);
        due("25 sort", x.was(0, 1), 0);
        due("25 the other's own", x.was(1, 0), 0);
        x.forget();
        x.seen(0, 0, -2, 0);
        due("25 sort: a beam", x.was(0, 1), 4);
        due("25 wide: not so", x.was(0, 0), 0);
        x.forget();
        x.seen(2, 0, -2, 0);
        due("25 sort: stiff or beam", x.was(0, 1), 5);
        x.forget();
        x.event(SCREW, 1, 0, 4);
        x.seen(1, 0, -4, 0);
        due("25 any, once screwed", x.was(0, 0), 1022);
        due("25 not told by them", x.couple(0, 2), 2);
        due("25 not told either", x.couple(0, 3), 1);
        due("25 what below", x.was(0, -1), BAD);
        due("25 what above", x.was(0, 2), BAD);
        due("25 no such", x.was(2, 0), BAD);
        due("25 no such below", x.was(-1, 0), BAD);
    }

    private static void ask() {
        CompassMarriage x = of("002l;553s");
        due("26 each another", x.ask(0), 0);
        x.event(SCREW, 0, 0, 4);
        due("26 all alike on any day", x.ask(0), 0);
        x.seen(0, 0, 9, 9);
        due("26 none at all", x.ask(0), 0);
        due("26 no such", x.ask(2), BAD);
        due("26 no such below", x.ask(-1), BAD);
        // Changed over and left, the leg is at (0,0) whatever the spread is, until they change over once more.
        CompassMarriage late = of("002l");
        late.event(CHANGE, 0, 0, 0);
        late.event(LEFT, 0, 0, 0);
        due("26 not to be told", late.ask(0), 0);
        late.event(CHANGE, 5, 0, 0);
        due("26 from day 5 on", late.ask(0), 5);
        late.seen(5, 0, 2, 0);
        due("26 one spread is as good on any day", late.ask(0), 0);
        askByTheGreatest();
    }

    private static void askByTheGreatest() {
        // Changed over ahead of its first round and 3 wide then, its point tells the spreads 0 to 9 apart.
        CompassMarriage x = of("002l");
        x.event(CHANGE, 0, 0, 0);
        x.event(SCREW, 0, 0, 3);
        due("26 by the point", x.ask(0), 0);
        // On day 1 all but 0 have gone a quarter more, so that on days 1 on the greatest number is 9, on day 0 it is 1.
        CompassMarriage y = of("002l");
        y.event(SCREW, 1, 0, 5);
        due("26 the first", y.ask(0), 0);
        // The leg is at (0,0) whatever the spread is; 4 wide from day 2 on, it is 4 less x than the point.
        CompassMarriage z = of("002l");
        z.event(CHANGE, 0, 0, 0);
        z.event(LEFT, 0, 0, 0);
        z.event(SCREW, 2, 0, 4);
        due("26 by the point once screwed", z.ask(0), 2);
    }

    private static void gossip() {
        CompassMarriage x = of("003l;401l");
        due("27 none: above", x.gossip(16, 19, 0), 0);
        due("27 none: below", x.gossip(16, 19, 1), 1);
        x.event(SCREW, 0, 1, 3);
        due("27 one: above", x.gossip(5, 19, 0), 5);
        due("27 one: below", x.gossip(5, 19, 1), 16);
        due("27 lowest: above", x.gossip(4, 19, 0), 1);
        due("27 lowest: below", x.gossip(4, 19, 1), 4);
        due("27 never: above", x.gossip(0, 19, 0), 0);
        due("27 never: below", x.gossip(0, 19, 1), 1);
        due("27 always: above", x.gossip(16, 19, 0), 1);
        due("27 always: below", x.gossip(16, 19, 1), 1);
        due("27 not closed yet", x.gossip(16, 2, 0), 0);
        due("27 closed", x.gossip(16, 3, 0), 1);
        x.event(SCREW, 1, 1, 3);
        due("27 two: above", x.gossip(4, 19, 0), 7);
        due("27 two: below", x.gossip(4, 19, 1), 16);
        for (int n = 3; n <= 8; n++) {
            x.event(SCREW, n, 1, 3);
        }
        due("27 eight: above", x.gossip(1, 19, 0), 4294967296L - 2562890625L);
        due("27 eight: below", x.gossip(1, 19, 1), 4294967296L);
        due("27 without events", of("003l;403l").gossip(3, 19, 0), 1);
        long bad = Long.MIN_VALUE + 2;
        due("27 c below", x.gossip(-1, 0, 0), bad);
        due("27 c above", x.gossip(17, 0, 0), bad);
        due("27 day below", x.gossip(0, -1, 0), bad);
        due("27 day above", x.gossip(0, 20, 0), bad);
        due("27 what below", x.gossip(0, 0, -1), bad);
        due("27 what above", x.gossip(0, 0, 2), bad);
    }

    private static void ages() {
        CompassMarriage x = of("003l;403l;990l");
        x.event(LEFT, 0, 0, 0);
        due("28 in place of those told: pairs", x.ages(5, 0, 0), 1);
        due("28 in place of those told: closed", x.ages(5, 0, 1), 2);
        // SEED 0: upper 16 bits 0, 54236, 42756, 54885: a screw, day 16, couple 0, 5 wide.
        CompassMarriage y = of("003l;602l;990l");
        due("28 none: pairs", y.ages(0, 0, 0), 0);
        due("28 one screw: pairs", y.ages(0, 1, 0), 1);
        due("28 one screw: closed", y.ages(0, 1, 1), 2);
        // SEED 7: upper 16 bits 52332, 9806, 10868, 22674: a screw, day 6, couple 2, 4 wide.
        due("28 another screw: pairs", y.ages(7, 1, 0), 0);
        due("28 another screw: closed", y.ages(7, 1, 1), 3);
        due("28 no couples", new CompassMarriage().ages(0, 8, 1), 0);
        due("28 n below", x.ages(0, -1, 0), BAD);
        due("28 n above", x.ages(0, 9, 0), BAD);
        due("28 what below", x.ages(0, 0, -1), BAD);
        due("28 what above", x.ages(0, 0, 2), BAD);
        due("28 told as before", x.count(2), 1);
        due("28 any seed", x.ages(LEAST, 8, 1) >= 0 ? 1 : 0, 1);
        due("28 any seed at all", x.ages(MOST, 8, 1) >= 0 ? 1 : 0, 1);
    }

    private static void sheet() {
        CompassMarriage x = new CompassMarriage();
        due("29 new", x.sheet(0, 0, 5), 5);
        due("29 empty", x.sheet(3, 2, 0), 0);
        due("29 most", x.sheet(1, 1, 60), 60);
        due("29 above", x.sheet(1, 1, 61), BAD);
        due("29 sheet below", x.sheet(-1, 0, 0), BAD);
        due("29 sheet above", x.sheet(4, 0, 0), BAD);
        due("29 form below", x.sheet(0, -1, 0), BAD);
        due("29 form above", x.sheet(0, 3, 0), BAD);
        due("29 none found", x.count(8), 0);
        due("29 bad ahead of size", x.sheet(4, 0, -1), BAD);
        due("29 size", x.sheet(0, 1, -1), SIZE);
        due("29 found", x.count(8), 5);
        due("29 still as it was", x.get(0, 0, 4), 0);
        x.put(0, 0, 4, 77);
        x.sheet(0, 0, 5);
        due("29 a new row", x.get(0, 0, 4), 0);
    }

    private static void lose() {
        CompassMarriage x = new CompassMarriage();
        x.sheet(2, 1, 7);
        due("30 lose", x.lose(2), 7);
        due("30 lost", x.lose(2), NULL);
        due("30 found", x.count(8), 1);
        due("30 below", x.lose(-1), BAD);
        due("30 above", x.lose(4), BAD);
        x.sheet(2, 1, 0);
        due("30 empty", x.lose(2), 0);
    }

    private static void put() {
        CompassMarriage x = new CompassMarriage();
        x.sheet(0, 0, 3);
        x.sheet(1, 1, 3);
        x.sheet(2, 2, 3);
        due("31 put", x.put(0, 0, 2, 5), 1);
        due("31 byte", x.put(0, 0, 0, 200), 1);
        due("31 byte has become", x.get(0, 0, 0), -56);
        due("31 short", x.put(1, 1, 0, 0x18000), 1);
        due("31 short has become", x.get(1, 1, 0), -32768);
        due("31 int", x.put(2, 2, 0, LEAST + 1), 1);
        due("31 int as it is", x.get(2, 2, 0), LEAST + 1);
        due("31 sheet below", x.put(-1, 0, 0, 0), BAD);
        due("31 sheet above", x.put(4, 0, 0, 0), BAD);
        due("31 form below", x.put(0, -1, 0, 0), BAD);
        due("31 bad ahead of null", x.put(3, 3, 0, 0), BAD);
        due("31 null ahead of cast", x.put(3, 2, 9, 0), NULL);
        due("31 cast ahead of index", x.put(0, 1, 3, 0), CAST);
        due("31 found", x.count(8), 3);
        due("31 index above", x.put(0, 0, 3, 0), INDEX);
        due("31 index below", x.put(0, 0, -1, 0), INDEX);
        due("31 found then", x.count(8), 2);
        due("31 nothing changed", x.get(0, 0, 2), 5);
    }

    private static void get() {
        CompassMarriage x = new CompassMarriage();
        x.sheet(0, 1, 2);
        x.put(0, 1, 1, -7);
        due("32 get", x.get(0, 1, 1), -7);
        due("32 at first", x.get(0, 1, 0), 0);
        due("32 sheet", x.get(4, 1, 0), LEAST);
        due("32 form", x.get(0, 3, 0), LEAST);
        due("32 bad is no finding", x.count(8), 0);
        due("32 null", x.get(1, 1, 0), LEAST);
        due("32 found null", x.count(8), 1);
        due("32 cast", x.get(0, 0, 5), LEAST);
        due("32 found cast", x.count(8), 3);
        due("32 index", x.get(0, 1, 2), LEAST);
        due("32 found index", x.count(8), 2);
        due("32 well", x.get(0, 1, 0), 0);
        due("32 the latest stays", x.count(8), 2);
    }

    private static void copy() {
        CompassMarriage x = new CompassMarriage();
        putAll(x, 0, 0, 1, 2, 3, 4, 5);
        x.sheet(1, 0, 4);
        x.sheet(2, 2, 4);
        due("33 copy", x.copy(0, 1, 1, 2, 2), 1);
        due("33 came", x.get(1, 0, 2) * 10 + x.get(1, 0, 3), 23);
        due("33 onto itself", x.copy(0, 0, 0, 1, 4), 1);
        due("33 as they were", x.get(0, 0, 1) * 1000 + x.get(0, 0, 2) * 100 + x.get(0, 0, 3) * 10 + x.get(0, 0, 4), 1234);
        due("33 back onto itself", x.copy(0, 1, 0, 0, 4), 1);
        due("33 as they were, too", x.get(0, 0, 0) * 10 + x.get(0, 0, 3), 14);
        due("33 nothing at the end", x.copy(0, 5, 1, 4, 0), 1);
        due("33 nothing behind the end", x.copy(0, 6, 1, 0, 0), INDEX);
        due("33 found index", x.count(8), 2);
        due("33 below", x.copy(0, -1, 1, 0, 1), INDEX);
        due("33 to below", x.copy(0, 0, 1, -1, 1), INDEX);
        due("33 less than none", x.copy(0, 1, 1, 1, -1), INDEX);
        due("33 not so many", x.copy(0, 3, 1, 0, 3), INDEX);
        due("33 not so many there", x.copy(0, 0, 1, 2, 3), INDEX);
        due("33 far too many", x.copy(0, 1, 1, 1, MOST), INDEX);
        due("33 far away", x.copy(0, MOST, 1, MOST, MOST), INDEX);
        due("33 store ahead of index", x.copy(0, -1, 2, 0, 1), STORE);
        due("33 found store", x.count(8), 4);
        due("33 null", x.copy(3, -1, 2, 0, 1), NULL);
        due("33 null there", x.copy(2, 0, 3, 0, 1), NULL);
        due("33 bad ahead of null", x.copy(3, 0, 4, 0, 1), BAD);
        due("33 bad", x.copy(-1, 0, 0, 0, 1), BAD);
        due("33 nothing changed", x.get(1, 0, 0), 0);
    }

    private static void write() {
        CompassMarriage x = of("001l;001s");
        x.event(SCREW, 8, 1, 5);
        x.sheet(0, 0, 30);
        x.sheet(1, 2, 3);
        x.put(0, 0, 20, 9);
        int[] want = {1, 1, 2, 2, 3, 3, 4, 4, 1, 1, 2, 2, 3, 3, 4, 4, 4, 4, 4, 4, 9, 0};
        due("34 twenty at most", x.write(1, 0), 20);
        for (int i = 0; i < want.length; i++) {
            due("34 item " + i, x.get(0, 0, i), want[i]);
        }
        due("34 as many as there are", x.write(0, 1), 3);
        due("34 the last", x.get(1, 2, 2), 3);
        x.sheet(2, 1, 0);
        due("34 none", x.write(0, 2), 0);
        due("34 no such couple", x.write(2, 0), BAD);
        due("34 no such couple below", x.write(-1, 3), BAD);
        due("34 no such sheet", x.write(0, 4), BAD);
        due("34 no such sheet below", x.write(0, -1), BAD);
        due("34 lost", x.write(0, 3), NULL);
        due("34 found", x.count(8), 1);
    }

    private static void count() {
        CompassMarriage x = of("003l;303l;903b;005s");
        x.event(CHANGE, 1, 3, 0);
        x.event(CHANGE, 2, 3, 0);
        x.event(CHANGE, 2, 2, 0);
        x.event(CHANGE, 2, 2, 0);
        x.seen(0, 0, 0, 0);
        x.lose(0);
        // 3 is changed over with 1 arc, then with 0; 2 is changed over closed, then with 0; their points come back.
        int[] want = {4, 19, 4, x.pairs(19, 0), x.pairs(19, 1), 4, 1, 1, 1};
        for (int what = 0; what <= 8; what++) {
            due("35 count(" + what + ")", x.count(what), want[what]);
        }
        due("35 talked", x.count(3), 2);
        due("35 neighbours", x.count(4), 1);
        due("35 below", x.count(-1), BAD);
        due("35 above", x.count(9), BAD);
    }

    private static void digest() {
        CompassMarriage x = new CompassMarriage();
        long h = 17;
        for (int i = 0; i < 8; i++) {
            h = 31 * h;
        }
        h = 31 * h + NONE;
        for (int i = 0; i < 60; i++) {
            h = 31 * h;
        }
        int[] rest = {0, NONE, NONE, NONE, NONE, NONE, NONE, 0, NONE, 0, 0, 1, 0, 0};
        for (int v : rest) {
            h = 31 * h + v;
        }
        due("36 of a new object", x.digest(), h);
        x.lose(0);
        due("36 without findings", x.digest(), h);
        x.type('0');
        Check.isTrue("36 with the text", x.digest() != h);
        x.wipe();
        due("36 as before", x.digest(), h);
        CompassMarriage rich = of("003l;402s;331b;990l");
        rich.event(CHANGE, 0, 0, 0);
        rich.event(SCREW, 0, 0, 3);
        rich.event(SCREW, 13, 0, 2);
        rich.event(SCREW, 15, 1, 4);
        rich.event(CHANGE, 10, 2, 0);
        rich.seen(3, 1, 2, 0);
        due("36 by its calls", rich.digest(), digestByCalls(rich, 4));
    }

    private static long digestByCalls(CompassMarriage x, int couples) {
        List<Long> row = new ArrayList<>();
        for (int what = 0; what <= 7; what++) {
            row.add((long) x.count(what));
        }
        row.add((long) x.fault());
        for (int it = 0; it < couples; it++) {
            addCouple(row, x, it);
        }
        for (int one = 0; one < couples; one++) {
            for (int other = one + 1; other < couples; other++) {
                row.add((long) x.are(9, one, other));
                row.add((long) x.are(19, one, other));
            }
        }
        for (int day = 0; day <= 19; day++) {
            addAll(row, x.pairs(day, 0), x.pairs(day, 1), x.closed(day));
        }
        addAll(row, x.holes(), x.meets(0), x.meets(1), x.meets(2), x.swap(0), x.swap(1), x.swap(2));
        addAll(row, x.drop(NONE), x.drop(0), x.never());
        row.add(x.gossip(5, 14, 0));
        row.add(x.gossip(5, 14, 1));
        addAll(row, x.ages(7, 6, 0), x.ages(7, 6, 1));
        long h = 17;
        for (long v : row) {
            h = 31 * h + v;
        }
        return h;
    }

    private static void addAll(List<Long> row, int... values) {
        for (int v : values) {
            row.add((long) v);
        }
    }

    private static void addCouple(List<Long> row, CompassMarriage x, int it) {
        addAll(row, x.couple(it, 0), x.couple(it, 1), x.couple(it, 2), x.couple(it, 3));
        for (int day : new int[] {0, 6, 12, 19}) {
            addAll(row, x.at(day, it, 0), x.at(day, it, 1), x.at(day, it, 2), x.at(day, it, 3), x.at(day, it, 4));
            addAll(row, x.place(day, it, 0), x.place(day, it, 1), x.place(day, it, 2), x.place(day, it, 3));
        }
        addAll(row, x.ringed(it), x.open(it, 12, 0), x.open(it, 12, 1));
        addAll(row, x.stand(it, 12, 0), x.stand(it, 12, 1), x.stand(it, 12, 2), x.was(it, 0), x.was(it, 1), x.ask(it));
    }
}
