/** DAYS, EVENTS, and promises 7 to 9, at their bounds: a method for each sentence. */
public final class EventBoundsTest {
    private static final int BAD = Made.BAD, NOT = Made.NOT, FULL = Made.FULL, NULL = Made.NULL;

    public static void main(String[] args) {
        kindsAre0To2();
        daysAre0To19();
        couplesAre0To7();
        numbersAre0To9();
        theNumberOf1And2IsNothing();
        eightEventsAtMost();
        badAheadOfFull();
        anEventOfACoupleThatThereIsNot();
        backToNoneAndNot();
        backTakesTheOneToldLast();
        readNeedsASheet();
        readTakesWholeOnes();
        readAsLongAsEachMayBe();
        readAsLongAsThereIsRoom();
        readOfEachForm();
        readLeavesTheSheet();
        Check.end();
    }

    private static void due(String call, long got, long want) {
        Check.due(call, got, want);
    }

    /** "a kind": 0 a SCREW, 1 a CHANGE, 2 one is LEFT. */
    private static void kindsAre0To2() {
        Made.range("7 kind", Made::some, (x, kind) -> x.event(kind, 3, 0, 5), 0, 2, BAD);
    }

    /** "DAYS are 0 to 19." */
    private static void daysAre0To19() {
        Made.range("7 day", Made::some, (x, day) -> x.event(0, day, 0, 5), 0, 19, BAD);
        CompassMarriage first = Made.of("003l", Made.screw(0, 0, 5));
        due("7 on the first day", first.at(0, 0, 0), 5);
        CompassMarriage last = Made.of("003l", Made.screw(19, 0, 5));
        due("7 ahead of the last day", last.at(18, 0, 0), 3);
        due("7 on the last day", last.at(19, 0, 0), 5);
    }

    /** "a COUPLE (0 to 7)", whether it is there or not. */
    private static void couplesAre0To7() {
        Made.range("7 couple", Made::some, (x, c) -> x.event(0, 3, c, 5), 0, 7, BAD);
        Made.range("7 couple of none", CompassMarriage::new, (x, c) -> x.event(0, 3, c, 5), 0, 7, BAD);
    }

    /** "a number (0 to 9)", of each kind. */
    private static void numbersAre0To9() {
        for (int kind = 0; kind <= 2; kind++) {
            int itsKind = kind;
            Made.range("7 number of kind " + kind, Made::some, (x, v) -> x.event(itsKind, 3, 0, v), 0, 9, BAD);
        }
        for (int v = 0; v <= 9; v++) {
            due("7 the spread becomes " + v, Made.of("003l", Made.screw(3, 0, v)).at(3, 0, 0), v);
        }
    }

    /** "the number of 1 and 2 is nothing": whatever it is, all comes out alike. */
    private static void theNumberOf1And2IsNothing() {
        for (int kind = 1; kind <= 2; kind++) {
            long first = Made.of("003l;402s", new int[] {kind, 3, 0, 0}).digest();
            for (int v = 1; v <= 9; v++) {
                due("7 number " + v + " of kind " + kind, Made.of("003l;402s", new int[] {kind, 3, 0, v}).digest(), first);
            }
        }
    }

    /** "EVENTS, 8 at most (0 on)": the eighth is taken, the ninth is not; never() has them as bits 0 to 7. */
    private static void eightEventsAtMost() {
        CompassMarriage x = new CompassMarriage();
        for (int n = 1; n <= 8; n++) {
            due("7 event " + n, x.event(0, 0, 0, 0), n);
            due("7 bits of " + n, x.never(), (1 << n) - 1);
        }
        due("7 the ninth", x.event(0, 0, 0, 0), FULL);
        due("7 eight still", x.count(2), 8);
        due("7 one undone", x.back(), 7);
        due("7 room for one", x.event(2, 19, 7, 9), 8);
        due("7 and no more", x.event(2, 19, 7, 9), FULL);
        for (int kind = 0; kind <= 2; kind++) {
            int itsKind = kind;
            Made.refused("7 full, kind " + kind, Made::full, y -> y.event(itsKind, 0, 0, 1), FULL);
        }
    }

    /** Promise 7: "BAD; FULL." */
    private static void badAheadOfFull() {
        int[][] wrong = {{-1, 0, 0, 0}, {3, 0, 0, 0}, {0, -1, 0, 0}, {0, 20, 0, 0}, {0, 0, -1, 0}, {0, 0, 8, 0},
            {0, 0, 0, -1}, {0, 0, 0, 10}, {1, 0, 0, 10}, {2, 0, 0, -1}, {3, 20, 8, 10}};
        for (int[] e : wrong) {
            String label = "7 both: " + e[0] + " " + e[1] + " " + e[2] + " " + e[3];
            Made.refused(label, Made::full, x -> x.event(e[0], e[1], e[2], e[3]), BAD);
        }
    }

    /** An EVENT of a COUPLE that is not there is one, does nothing, and is done once the COUPLE is there. */
    private static void anEventOfACoupleThatThereIsNot() {
        CompassMarriage x = Made.of("003l", Made.screw(0, 1, 5));
        due("7 it is one", x.count(2), 1);
        due("7 of nobody else", x.at(0, 0, 0), 3);
        for (char sign : ";992l".toCharArray()) {
            x.type(sign);
        }
        due("7 done then", x.at(0, 1, 0), 5);
        due("7 of nobody else then", x.at(0, 0, 0), 3);
        CompassMarriage last = Made.of(Made.EIGHT, Made.screw(0, 7, 4));
        due("7 of the eighth", last.at(0, 7, 0), 4);
    }

    /** Promise 8: "how many are left. NOT: there is none." */
    private static void backToNoneAndNot() {
        CompassMarriage x = Made.full();
        for (int left = 7; left >= 0; left--) {
            due("8 left " + left, x.back(), left);
        }
        due("8 none", x.back(), NOT);
        due("8 none still", x.back(), NOT);
        due("8 one more", x.event(0, 0, 0, 0), 1);
        Made.refused("8 of a new one", CompassMarriage::new, CompassMarriage::back, NOT);
        Made.refused("8 of one without", () -> Made.of(Made.EIGHT), CompassMarriage::back, NOT);
    }

    /** Promise 8: "The last EVENT is undone": the one told last, on whatever DAY it is. */
    private static void backTakesTheOneToldLast() {
        int[][] told = {Made.screw(9, 0, 9), Made.screw(0, 0, 1), Made.change(9, 0), Made.screw(19, 0, 4),
            Made.leave(12, 0), Made.change(0, 0), Made.screw(5, 0, 2), Made.change(5, 0)};
        CompassMarriage x = Made.of("003l;402s", told);
        for (int left = 7; left >= 0; left--) {
            x.back();
            int[][] rest = java.util.Arrays.copyOf(told, left);
            due("8 as if " + left + " had been told", x.digest(), Made.of("003l;402s", rest).digest());
        }
        CompassMarriage y = Made.of("003l;402s", told);
        y.back();
        y.back();
        Made.tell(y, told[6], told[7]);
        due("8 told again", y.digest(), Made.of("003l;402s", told).digest());
    }

    /** Promise 9: "BAD; NULL." */
    private static void readNeedsASheet() {
        Made.range("9 sheet", Made::some, (x, s) -> x.read(s), 0, 3, BAD);
        Made.refused("9 lost", Made::some, x -> x.read(3), NULL);
        Made.refused("9 lost, of a full one", Made::full, x -> x.read(3), NULL);
        for (int s = 0; s <= 3; s++) {
            int itsSheet = s;
            Made.refused("9 lost at first: " + s, CompassMarriage::new, x -> x.read(itsSheet), NULL);
        }
    }

    /** Promise 9: "its items, four for each, as many as are whole". */
    private static void readTakesWholeOnes() {
        for (int items = 0; items <= 35; items++) {
            CompassMarriage x = new CompassMarriage();
            x.sheet(0, 0, items);
            due("9 of " + items + " items", x.read(0), items / 4);
            due("9 events of " + items + " items", x.count(2), items / 4);
        }
        CompassMarriage each = Made.of("003l;402s;331b");
        Made.putAll(each, 1, 2, 0, 3, 0, 5, 1, 4, 1, 0, 2, 6, 2, 9, 0, 7, 1);
        due("9 kind, day, couple, number", each.read(1), 3);
        int[][] told = {Made.screw(3, 0, 5), Made.change(4, 1), Made.leave(6, 2)};
        due("9 as told one by one", each.digest(), Made.of("003l;402s;331b", told).digest());
    }

    /** Promise 9: "as long as each may be": up to the first that may not, however it may not. */
    private static void readAsLongAsEachMayBe() {
        int[][] wrong = {{-1, 0, 0, 0}, {3, 0, 0, 0}, {0, -1, 0, 0}, {0, 20, 0, 0}, {0, 0, -1, 0}, {0, 0, 8, 0},
            {0, 0, 0, -1}, {0, 0, 0, 10}, {1, 0, 0, 10}, {2, 0, 0, -1}};
        int[][] right = {{0, 0, 0, 0}, {2, 0, 0, 0}, {0, 19, 0, 0}, {0, 0, 7, 0}, {0, 0, 0, 9}, {2, 19, 7, 9}};
        for (int[] e : wrong) {
            due("9 the first may not be", readOf(e, 0, 0, 0, 0), 0);
            due("9 the second may not be", readOf(new int[] {0, 0, 0, 0}, e), 1);
        }
        for (int[] e : right) {
            due("9 the first may be", readOf(e, 0, 0, 0, 0), 2);
            due("9 the second may be", readOf(new int[] {0, 0, 0, 0}, e), 2);
        }
        CompassMarriage x = new CompassMarriage();
        Made.putAll(x, 0, 0, 0, 1, 2, 3, 0, 20, 0, 0, 0, 1, 2, 3);
        due("9 none behind it", x.read(0), 1);
        due("9 that one is told", x.count(2), 1);
        due("9 it is no finding", x.count(8), 0);
    }

    private static int readOf(int[] first, int... second) {
        CompassMarriage x = new CompassMarriage();
        Made.putAll(x, 0, 0, first[0], first[1], first[2], first[3], second[0], second[1], second[2], second[3]);
        int came = x.read(0);
        due("9 as many are told", x.count(2), came);
        return came;
    }

    /** Promise 9 at "8 at most": as many as there is room for, behind those told. */
    private static void readAsLongAsThereIsRoom() {
        for (int told = 0; told <= 8; told++) {
            CompassMarriage x = new CompassMarriage();
            for (int n = 0; n < told; n++) {
                x.event(2, 19, 7, 9);
            }
            x.sheet(0, 0, 60);
            due("9 behind " + told, x.read(0), 8 - told);
            due("9 eight then", x.count(2), 8);
            due("9 none more", x.read(0), 0);
            due("9 no finding", x.count(8), 0);
        }
        CompassMarriage behind = Made.of("003l", Made.screw(0, 0, 5));
        Made.putAll(behind, 0, 0, 0, 0, 0, 7);
        behind.read(0);
        due("9 behind the one told", behind.at(0, 0, 0), 7);
        behind.back();
        due("9 undone ahead of it", behind.at(0, 0, 0), 5);
    }

    /** Promise 9: of bytes, shorts and ints alike; items are what they have become. */
    private static void readOfEachForm() {
        for (int form = 0; form < 3; form++) {
            CompassMarriage x = Made.of(Made.EIGHT);
            Made.putAll(x, 0, form, 0, 19, 7, 9);
            due("9 form " + form, x.read(0), 1);
            due("9 done, form " + form, x.at(19, 7, 0), 9);
            CompassMarriage y = Made.of(Made.EIGHT);
            Made.putAll(y, 0, form, 65536, 65536 + 19, 65536 + 7, 65536 + 9);
            due("9 lowest bits, form " + form, y.read(0), form == 2 ? 0 : 1);
        }
        CompassMarriage cut = new CompassMarriage();
        Made.putAll(cut, 0, 1, 256, 0, 0, 0);
        due("9 a short of 256", cut.read(0), 0);
    }

    /** What is read stays on the SHEET, and can be read again. */
    private static void readLeavesTheSheet() {
        CompassMarriage x = new CompassMarriage();
        Made.putAll(x, 0, 0, 0, 19, 7, 9, 1);
        due("9 once", x.read(0), 1);
        due("9 twice", x.read(0), 1);
        due("9 two are told", x.count(2), 2);
        int[] items = {0, 19, 7, 9, 1};
        for (int i = 0; i < items.length; i++) {
            due("9 item " + i, x.get(0, 0, i), items[i]);
        }
        due("9 five of them", x.lose(0), 5);
    }
}
