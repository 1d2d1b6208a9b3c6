import java.util.ArrayList;
import java.util.List;

/** The text, its FAULT, and promises 1 to 6, at their bounds: a method for each sentence. */
public final class TextBoundsTest {
    private static final int NONE = Made.NONE, BAD = Made.BAD, NOT = Made.NOT, FULL = Made.FULL;

    public static void main(String[] args) {
        fiveHundredAndTwelveCalls();
        aNewObject();
        upTo39Bytes();
        aByteIs0To255();
        badAheadOfFull();
        eightCouplesAtMost();
        eachPlaceTakesItsBytesAlone();
        faultIsTheFirstByte();
        anEmptyTextIsWell();
        notEndedItIsTheEnd();
        theFirstByteOfANinth();
        withAFaultAsIfEmpty();
        wellAgainBehindAFault();
        wipeTellsHowManyItHad();
        wipeTakesTheTextAlone();
        undoToNoneAndNot();
        coupleOfNumbers();
        coupleIsAsTold();
        Check.end();
    }

    private static void due(String call, long got, long want) {
        Check.due(call, got, want);
    }

    /** "An object is used for at most 512 calls": the 512th is answered still, refused ones among them or not. */
    private static void fiveHundredAndTwelveCalls() {
        CompassMarriage x = new CompassMarriage();
        for (int call = 1; call < 512; call++) {
            int answer = call % 3 == 0 ? x.undo() : call % 3 == 1 ? x.type('0') : x.type(256);
            due("512 calls: call " + call, answer, call % 3 == 0 ? 0 : call % 3 == 1 ? 1 : BAD);
        }
        due("512 calls: the last", x.fault(), 1);
        CompassMarriage y = Made.full();
        long first = y.digest();
        // 39 bytes, 8 events, 8 sightings with 16 looks, 3 sheets with 11 items, and the digest are 86 calls.
        for (int call = 87; call <= 512; call++) {
            due("512 calls: digest as call " + call, y.digest(), first);
        }
    }

    /** Promise 1: "No COUPLES, no EVENTS; all SHEETS are LOST." */
    private static void aNewObject() {
        due("1 couples", new CompassMarriage().count(0), 0);
        due("1 no couple 0", new CompassMarriage().couple(0, 0), BAD);
        due("1 the text is empty", new CompassMarriage().undo(), NOT);
        due("1 events", new CompassMarriage().count(2), 0);
        due("1 no event", new CompassMarriage().back(), NOT);
        due("1 nothing seen", new CompassMarriage().forget(), 0);
        for (int s = 0; s < 4; s++) {
            due("1 sheet " + s + " is lost", new CompassMarriage().lose(s), Made.NULL);
            due("1 sheet " + s + " has no items", new CompassMarriage().get(s, 0, 0), Made.LEAST);
        }
        due("1 nothing found", new CompassMarriage().count(8), 0);
        CompassMarriage one = Made.full();
        due("1 another object has nothing of it", new CompassMarriage().count(1) + one.count(1), 39);
    }

    /** "a text of up to 39 bytes": the 39th is taken, the 40th is not. */
    private static void upTo39Bytes() {
        CompassMarriage x = new CompassMarriage();
        for (int n = 1; n <= 39; n++) {
            due("39 bytes: byte " + n, x.type('0'), n);
        }
        due("39 bytes: the 40th", x.type('0'), FULL);
        due("39 bytes: still", x.count(1), 39);
        due("39 bytes: one undone", x.undo(), 38);
        due("39 bytes: room for one", x.type('0'), 39);
        due("39 bytes: and no more", x.type('0'), FULL);
        due("39 bytes: wiped", x.wipe(), 39);
        due("39 bytes: room again", x.type('0'), 1);
        for (int b : new int[] {0, ';', 255}) {
            Made.refused("2 full, byte " + b, Made::full, y -> y.type(b), FULL);
            Made.refused("2 full with a fault, byte " + b, () -> Made.of("#".repeat(39)), y -> y.type(b), FULL);
        }
    }

    /** Promise 2: "A byte (0 to 255)": 0 and 255 are, -1 and 256 are not, nor is what has a byte's lowest bits. */
    private static void aByteIs0To255() {
        Made.range("2 byte", Made::some, (x, b) -> x.type(b), 0, 255, BAD);
        Made.refused("2 not cut to a byte", Made::some, x -> x.type(256 + ';'), BAD);
        Made.refused("2 not cut from below", Made::some, x -> x.type(';' - 256), BAD);
        for (int b = 0; b <= 255; b++) {
            due("2 byte " + b + " is one more", Made.some().type(b), 10);
        }
    }

    /** Promise 2: "BAD; FULL." */
    private static void badAheadOfFull() {
        for (int b : new int[] {-1, 256, Made.LEAST, Made.MOST}) {
            Made.refused("2 both, byte " + b, Made::full, x -> x.type(b), BAD);
        }
    }

    /** "8 at most (0 on)": eight are, each by its number, and no other has one. */
    private static void eightCouplesAtMost() {
        for (int n = 1; n <= 8; n++) {
            CompassMarriage x = Made.of(Made.row(n, "1l"));
            due(n + " couples", x.count(0), n);
            due(n + " couples: the first", x.couple(0, 0), 0);
            due(n + " couples: the last", x.couple(n - 1, 0), n - 1);
            due(n + " couples: one more", x.couple(n, 0), BAD);
            due(n + " couples: one less", x.couple(-1, 0), BAD);
        }
        due("no couples: the first", new CompassMarriage().couple(0, 0), BAD);
    }

    /**
     * "with ; between them: two figures 0 to 9 .. a figure 0 to 9, the SPREAD, and s (stiff), l (loose) or b (a beam)":
     * every byte at every place of eight couples.
     */
    private static void eachPlaceTakesItsBytesAlone() {
        for (int place = 0; place < 39; place++) {
            String may = place % 5 < 3 ? "0123456789" : place % 5 == 3 ? "slb" : ";";
            for (int b = 0; b <= 255; b++) {
                StringBuilder text = new StringBuilder(Made.EIGHT);
                text.setCharAt(place, (char) b);
                boolean well = may.indexOf(b) >= 0;
                CompassMarriage x = Made.of(text.toString());
                due("byte " + b + " at " + place + ": fault", x.fault(), well ? NONE : place);
                due("byte " + b + " at " + place + ": couples", x.count(0), well ? 8 : 0);
                if (well && place % 5 < 4) {
                    due("byte " + b + " at " + place + " is told", x.couple(place / 5, place % 5), may.indexOf(b));
                }
            }
        }
    }

    /** "The FAULT of the text is the place of the first byte with which it cannot go on", whatever is behind it. */
    private static void faultIsTheFirstByte() {
        for (int wrong = 0; wrong < 39; wrong++) {
            for (int later = wrong; later < 39; later++) {
                StringBuilder text = new StringBuilder(Made.EIGHT);
                text.setCharAt(wrong, '#');
                text.setCharAt(later, '#');
                due("5 the first of " + wrong + " and " + later, Made.of(text.toString()).fault(), wrong);
            }
        }
        due("5 the first byte of all", Made.of(";").fault(), 0);
        due("5 no second ;", Made.of("000s;;").fault(), 5);
        due("5 no ; too soon", Made.of("000;").fault(), 3);
        due("5 no fourth figure", Made.of("0000").fault(), 3);
        due("5 no couples side by side", Made.of("000s000s").fault(), 4);
        due("5 byte 0", Made.of("\0").fault(), 0);
    }

    /** "an empty one is well": at first, wiped, and undone to its first byte. */
    private static void anEmptyTextIsWell() {
        due("5 empty at first", new CompassMarriage().fault(), NONE);
        CompassMarriage wiped = Made.of("#");
        wiped.wipe();
        due("5 empty when wiped", wiped.fault(), NONE);
        CompassMarriage undone = Made.of("#");
        undone.undo();
        due("5 empty when undone", undone.fault(), NONE);
    }

    /** "of one that is not ended, its end": behind every byte of eight couples, typed and undone. */
    private static void notEndedItIsTheEnd() {
        CompassMarriage x = new CompassMarriage();
        for (int n = 1; n <= 39; n++) {
            x.type(Made.EIGHT.charAt(n - 1));
            dueAtLength("typed", x, n);
        }
        for (int n = 38; n >= 0; n--) {
            x.undo();
            dueAtLength("undone", x, n);
        }
    }

    private static void dueAtLength(String label, CompassMarriage x, int n) {
        boolean ended = n == 0 || n % 5 == 4;
        due("5 " + label + " to " + n, x.fault(), ended ? NONE : n);
        due("5 " + label + " to " + n + ": couples", x.count(0), ended ? (n + 1) / 5 : 0);
    }

    /** "here also of the first byte of a ninth": the text is full ahead of it, so that the eight stay well. */
    private static void theFirstByteOfANinth() {
        CompassMarriage x = Made.of(Made.EIGHT);
        due("5 eight fill the text", x.count(1), 39);
        for (char sign : ";1".toCharArray()) {
            due("5 no byte of a ninth", x.type(sign), FULL);
            due("5 eight are well", x.fault(), NONE);
            due("5 eight stay", x.count(0), 8);
        }
    }

    /** "With a FAULT it is as if it was empty": every call but fault() and count() 1 answers as of an empty text. */
    private static void withAFaultAsIfEmpty() {
        String[] texts = {"#03l;402s;331b", "003l;402s;331b#", "003l;402s;331b;", "003l;402s;331", "003l;4#2s;331b",
            "003l;402s;331b;9", Made.EIGHT.substring(0, 38), Made.EIGHT.substring(0, 38) + "#", "0"};
        List<Long> empty = answers(marked(""));
        for (String text : texts) {
            CompassMarriage x = marked(text);
            due("5 bytes of " + text, x.count(1), text.length());
            Check.isTrue("5 there is a fault in " + text, x.fault() != NONE);
            Check.isTrue("5 as if empty: " + text, answers(x).equals(empty));
        }
        due("5 empty: no couples", marked("").count(0), 0);
    }

    private static CompassMarriage marked(String text) {
        CompassMarriage x = Made.of(text, Made.screw(0, 0, 3), Made.change(2, 1), Made.leave(5, 2));
        x.seen(0, 0, 0, 3);
        x.sheet(0, 0, 5);
        return x;
    }

    private static List<Long> answers(CompassMarriage x) {
        List<Long> list = new ArrayList<>();
        for (int c = 0; c < 3; c++) {
            add(list, x.couple(c, 0), x.couple(c, 3), x.ringed(c), x.was(c, 0), x.was(c, 1), x.ask(c), x.write(c, 0));
            for (int day = 0; day < 20; day += 19) {
                add(list, x.at(day, c, 0), x.place(day, c, 2), x.are(day, c, 0), x.open(c, day, 0), x.stand(c, day, 0));
            }
        }
        for (int day = 0; day < 20; day++) {
            add(list, x.pairs(day, 0), x.pairs(day, 1), x.closed(day));
        }
        add(list, x.holes(), x.meets(0), x.meets(1), x.swap(0), x.swap(2), x.drop(NONE), x.drop(0), x.never());
        list.add(x.gossip(5, 19, 0));
        list.add(x.gossip(5, 19, 1));
        add(list, x.ages(1, 8, 0), x.ages(1, 8, 1), x.count(0));
        for (int what = 2; what <= 8; what++) {
            list.add((long) x.count(what));
        }
        return list;
    }

    private static void add(List<Long> list, int... values) {
        for (int v : values) {
            list.add((long) v);
        }
    }

    /** The couples are there again, as told, once the byte that was the FAULT is undone. */
    private static void wellAgainBehindAFault() {
        CompassMarriage x = Made.of("987b;612s#");
        due("5 none with it", x.count(0), 0);
        x.undo();
        int[][] want = {{9, 8, 7, 2}, {6, 1, 2, 0}};
        for (int c = 0; c < 2; c++) {
            for (int what = 0; what < 4; what++) {
                due("5 well again " + c + " " + what, x.couple(c, what), want[c][what]);
            }
        }
        CompassMarriage y = Made.of("12#");
        y.undo();
        y.type('3');
        y.type('l');
        due("5 goes on where it was well", y.couple(0, 2), 3);
    }

    /** Promise 3: "The text is empty: how many bytes it had", none, one, all; with a FAULT, too. */
    private static void wipeTellsHowManyItHad() {
        for (int n = 0; n <= 39; n++) {
            CompassMarriage x = Made.of(Made.EIGHT.substring(0, n));
            due("3 wipe of " + n, x.wipe(), n);
            due("3 bytes behind wipe of " + n, x.count(1), 0);
            due("3 couples behind wipe of " + n, x.count(0), 0);
            due("3 nothing to undo behind wipe of " + n, x.undo(), NOT);
        }
        CompassMarriage twice = Made.of("000s");
        twice.wipe();
        due("3 wiped twice", twice.wipe(), 0);
    }

    /** wipe() takes the text alone: events, what was seen, sheets and the latest finding stay. */
    private static void wipeTakesTheTextAlone() {
        CompassMarriage x = Made.full();
        x.lose(3);
        x.wipe();
        due("3 events stay", x.count(2), 8);
        due("3 seen stay", x.count(7), 8);
        due("3 finding stays", x.count(8), 1);
        due("3 sheets stay", x.get(0, 0, 4), 5);
        for (char sign : Made.EIGHT.toCharArray()) {
            x.type(sign);
        }
        due("3 told again, all is as before", x.digest(), Made.full().digest());
    }

    /** Promise 4: "how many are left. NOT: it is empty." */
    private static void undoToNoneAndNot() {
        CompassMarriage x = Made.of(Made.EIGHT);
        for (int left = 38; left >= 0; left--) {
            due("4 left " + left, x.undo(), left);
        }
        due("4 empty", x.undo(), NOT);
        due("4 empty still", x.undo(), NOT);
        due("4 and can go on", x.type('0'), 1);
        Made.refused("4 of a new one", CompassMarriage::new, CompassMarriage::undo, NOT);
        Made.refused("4 of a wiped one", TextBoundsTest::wipedFull, CompassMarriage::undo, NOT);
    }

    private static CompassMarriage wipedFull() {
        CompassMarriage x = Made.full();
        x.wipe();
        return x;
    }

    /** Promise 6: COUPLES 0 to 7 as many as there are, what 0 to 3; "BAD". */
    private static void coupleOfNumbers() {
        Made.range("6 couple of eight", Made::full, (x, c) -> x.couple(c, 0), 0, 7, BAD);
        Made.range("6 couple of two", Made::some, (x, c) -> x.couple(c, 3), 0, 1, BAD);
        Made.range("6 what", Made::full, (x, what) -> x.couple(7, what), 0, 3, BAD);
        Made.refused("6 neither", Made::some, x -> x.couple(2, 4), BAD);
        Made.refused("6 none there", CompassMarriage::new, x -> x.couple(0, 0), BAD);
    }

    /** Promise 6: "of a COUPLE as told", from 0 to 9, whatever has been done to it. */
    private static void coupleIsAsTold() {
        CompassMarriage x = Made.of("009b;990s", Made.screw(0, 0, 1), Made.change(0, 1), Made.screw(0, 1, 9));
        int[][] want = {{0, 0, 9, 2}, {9, 9, 0, 0}};
        for (int c = 0; c < 2; c++) {
            for (int what = 0; what < 4; what++) {
                due("6 as told: " + c + " " + what, x.couple(c, what), want[c][what]);
            }
        }
    }
}
