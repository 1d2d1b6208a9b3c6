import java.math.BigInteger;
import java.util.ArrayList;
import java.util.List;
import java.util.function.Supplier;

/** SHEETS, FINDINGS, count() and digest(), promises 29 to 36, at their bounds: a method for each sentence. */
public final class SheetBoundsTest {
    private static final int NONE = Made.NONE, BAD = Made.BAD, LEAST = Made.LEAST, MOST = Made.MOST;
    private static final int NULL = Made.NULL, INDEX = Made.INDEX, CAST = Made.CAST, STORE = Made.STORE, SIZE = Made.SIZE;

    public static void main(String[] args) {
        sheetsAre0To3();
        formsAre0To2();
        itemsAre0To60();
        badAheadOfSize();
        aNewRowIs0AtFirst();
        loseTellsHowMany();
        loseRefuses();
        theLowestBitsThatItHas();
        anItemThatThereIsNot();
        putInItsOrder();
        getInItsOrder();
        getOfTheLeastInt();
        copyOfNoneAndOfAll();
        copyAsTheyWere();
        copyNotSoMany();
        copyInItsOrder();
        writeAsManyAsThereAre();
        writeOfEachForm();
        writeInItsOrder();
        countOfNone();
        countOfTheMost();
        countRefuses();
        theLatestFinding();
        digestOfANewOne();
        digestByItsCalls();
        digestLeavesFindings();
        Check.end();
    }

    private static void due(String call, long got, long want) {
        Check.due(call, got, want);
    }

    // ---- sheet, lose

    /** "SHEETS 0 .. 3": each is one of its own. */
    private static void sheetsAre0To3() {
        Made.range("29 sheet", Made::some, (x, s) -> x.sheet(s, 0, 1), 0, 3, BAD);
        CompassMarriage x = new CompassMarriage();
        for (int s = 0; s < 4; s++) {
            Made.putAll(x, s, 2, 100 + s);
        }
        for (int s = 0; s < 4; s++) {
            due("29 item of sheet " + s, x.get(s, 2, 0), 100 + s);
        }
    }

    /** "a row of a FORM: 0 bytes, 1 shorts, 2 ints". */
    private static void formsAre0To2() {
        Made.range("29 form", Made::some, (x, form) -> x.sheet(0, form, 1), 0, 2, BAD);
        for (int form = 0; form < 3; form++) {
            CompassMarriage x = new CompassMarriage();
            x.sheet(0, form, 1);
            for (int as = 0; as < 3; as++) {
                due("29 form " + form + " as " + as, x.get(0, as, 0), as == form ? 0 : LEAST);
            }
        }
    }

    /** "of 0 to 60 items"; "above 60" is BAD, "5 SIZE: below 0". */
    private static void itemsAre0To60() {
        for (int form = 0; form < 3; form++) {
            for (int n = 0; n <= 60; n++) {
                CompassMarriage x = new CompassMarriage();
                due("29 of " + n, x.sheet(1, form, n), n);
                due("29 the item behind " + n, x.put(1, form, n, 1), INDEX);
                due("29 the last of " + n, x.put(1, form, n - 1, 1), n == 0 ? INDEX : 1);
                due("29 so many of " + n, x.lose(1), n);
            }
        }
        for (int n : new int[] {61, MOST}) {
            Made.refused("29 n " + n, Made::some, x -> x.sheet(0, 2, n), BAD);
            Made.refused("29 n " + n + ", lost", Made::some, x -> x.sheet(3, 2, n), BAD);
        }
        for (int n : new int[] {-1, LEAST}) {
            Made.refused("29 n " + n, Made::some, x -> x.sheet(0, 2, n), SIZE);
            Made.refused("29 n " + n + ", lost", Made::some, x -> x.sheet(3, 2, n), SIZE);
        }
    }

    /** Promise 29: "BAD: SHEET, FORM, above 60; SIZE." */
    private static void badAheadOfSize() {
        int[][] wrong = {{-1, 0}, {4, 0}, {0, -1}, {0, 3}, {4, 3}};
        for (int[] w : wrong) {
            for (int n : new int[] {-1, 0, 61, LEAST, MOST}) {
                Made.refused("29 sheet " + w[0] + ", form " + w[1] + ", n " + n, Made::some, x -> x.sheet(w[0], w[1], n), BAD);
            }
        }
    }

    /** "(0 at first)": in place of what was there, of the like FORM or another, shorter or longer. */
    private static void aNewRowIs0AtFirst() {
        CompassMarriage x = new CompassMarriage();
        x.sheet(0, 2, 60);
        for (int i = 0; i < 60; i++) {
            due("29 item " + i + " at first", x.get(0, 2, i), 0);
            x.put(0, 2, i, -1);
        }
        due("29 shorter", x.sheet(0, 1, 2), 2);
        due("29 shorter, at first", x.get(0, 1, 1), 0);
        due("29 longer", x.sheet(0, 2, 60), 60);
        for (int i = 0; i < 60; i++) {
            due("29 item " + i + " at first again", x.get(0, 2, i), 0);
        }
        x.put(0, 2, 59, -1);
        x.lose(0);
        x.sheet(0, 2, 60);
        due("29 behind a lost one", x.get(0, 2, 59), 0);
    }

    /** Promise 30: "It is LOST: how many items it had", none and 60, too. */
    private static void loseTellsHowMany() {
        for (int n : new int[] {0, 1, 59, 60}) {
            CompassMarriage x = new CompassMarriage();
            x.sheet(3, 0, n);
            due("30 of " + n, x.lose(3), n);
            due("30 of " + n + ", lost", x.lose(3), NULL);
        }
        CompassMarriage one = Made.some();
        one.lose(1);
        due("30 the others stay", one.get(0, 0, 0), 1);
        due("30 and the third", one.get(2, 2, 3), 4);
    }

    /** Promise 30: "BAD; NULL." */
    private static void loseRefuses() {
        Made.range("30 sheet", Made::some, (x, s) -> x.lose(s), 0, 3, BAD);
        Made.refused("30 lost", Made::some, x -> x.lose(3), NULL);
        for (int s = 0; s < 4; s++) {
            int itsSheet = s;
            Made.refused("30 lost at first: " + s, CompassMarriage::new, x -> x.lose(itsSheet), NULL);
        }
    }

    // ---- put, get

    /** Promise 31: "becomes v (the lowest bits that it has)", on both sides of what it has. */
    private static void theLowestBitsThatItHas() {
        int[] values = {0, 1, -1, 127, 128, 255, 256, 257, -127, -128, -129, -256, -257, 32767, 32768, 65535, 65536, 65537,
            -32768, -32769, -65536, MOST, LEAST, MOST - 1, LEAST + 1, 0x12345678};
        for (int v : values) {
            int[] want = {(v & 255) >= 128 ? (v & 255) - 256 : v & 255,
                (v & 65535) >= 32768 ? (v & 65535) - 65536 : v & 65535, v};
            for (int form = 0; form < 3; form++) {
                CompassMarriage x = new CompassMarriage();
                x.sheet(0, form, 1);
                due("31 put " + v + ", form " + form, x.put(0, form, 0, v), 1);
                due("31 " + v + " has become, form " + form, x.get(0, form, 0), want[form]);
            }
        }
    }

    /** "2 INDEX: there is no such item": on both sides, of none, of one, of 60; no other item is changed. */
    private static void anItemThatThereIsNot() {
        for (int n : new int[] {0, 1, 2, 60}) {
            Supplier<CompassMarriage> make = () -> {
                CompassMarriage x = new CompassMarriage();
                x.sheet(2, 1, n);
                return x;
            };
            for (int i : new int[] {-1, n, LEAST, MOST}) {
                Made.refused("31 item " + i + " of " + n, make, x -> x.put(2, 1, i, 7), INDEX);
                dueFound("32 item " + i + " of " + n, make, 1, i, 2);
            }
            if (n > 0) {
                CompassMarriage x = make.get();
                due("31 the first of " + n, x.put(2, 1, 0, 7), 1);
                due("31 the last of " + n, x.put(2, 1, n - 1, 8), 1);
                due("32 the last of " + n, x.get(2, 1, n - 1), 8);
                due("32 the first of " + n, x.get(2, 1, 0), n == 1 ? 8 : 7);
            }
        }
    }

    /** get() of sheet 2 answers the least int, the finding is told by count() 8, and nothing else has changed. */
    private static void dueFound(String label, Supplier<CompassMarriage> make, int form, int i, int finding) {
        CompassMarriage x = make.get();
        due(label, x.get(2, form, i), LEAST);
        due(label + ": found", x.count(8), finding);
        Check.isTrue(label + " changes nothing", Made.portrait(x).equals(Made.portrait(make.get())));
    }

    /** Promise 31: "BAD; NULL; CAST; INDEX." */
    private static void putInItsOrder() {
        Made.range("31 sheet", Made::some, (x, s) -> x.put(s, 0, 0, 9), 0, 3, BAD);
        Made.range("31 form", Made::some, (x, form) -> x.put(0, form, 0, 9), 0, 2, BAD);
        Made.range("31 form, lost", Made::some, (x, form) -> x.put(3, form, 0, 9), 0, 2, BAD);
        for (int i : new int[] {-1, 0, 9}) {
            Made.refused("31 no such sheet, item " + i, Made::some, x -> x.put(4, 0, i, 9), BAD);
            Made.refused("31 no such form, item " + i, Made::some, x -> x.put(2, 3, i, 9), BAD);
            Made.refused("31 no such form, lost, item " + i, Made::some, x -> x.put(3, -1, i, 9), BAD);
            for (int form = 0; form < 3; form++) {
                int itsForm = form;
                Made.refused("31 lost, form " + form + ", item " + i, Made::some, x -> x.put(3, itsForm, i, 9), NULL);
            }
            for (int s = 0; s < 3; s++) {
                int itsSheet = s;
                Made.refused("31 another form, item " + i, Made::some, x -> x.put(itsSheet, (itsSheet + 1) % 3, i, 9), CAST);
                Made.refused("31 yet another form, item " + i, Made::some, x -> x.put(itsSheet, (itsSheet + 2) % 3, i, 9), CAST);
            }
        }
    }

    /** Promise 32: "BAD: the least int; so are NULL, CAST, INDEX (count() 8 tells)". */
    private static void getInItsOrder() {
        Made.range("32 sheet", SheetBoundsTest::fourRows, (x, s) -> x.get(s, 0, 0), 0, 3, LEAST);
        Made.range("32 form", Made::some, (x, form) -> x.get(form, form, 0), 0, 2, LEAST);
        for (int i : new int[] {-1, 0, 9}) {
            Made.refused("32 no such sheet, item " + i, Made::some, x -> x.get(4, 0, i), LEAST);
            Made.refused("32 no such sheet below, item " + i, Made::some, x -> x.get(-1, 0, i), LEAST);
            Made.refused("32 no such form, item " + i, Made::some, x -> x.get(2, 3, i), LEAST);
            Made.refused("32 no such form, lost, item " + i, Made::some, x -> x.get(3, -1, i), LEAST);
            for (int form = 0; form < 3; form++) {
                dueFound("32 lost, form " + form + ", item " + i, SheetBoundsTest::withoutSheet2, form, i, 1);
                if (form != 2) {
                    dueFound("32 form " + form + ", item " + i, Made::some, form, i, 3);
                }
            }
        }
        dueFound("32 no such item", Made::some, 2, 4, 2);
    }

    private static CompassMarriage fourRows() {
        CompassMarriage x = new CompassMarriage();
        for (int s = 0; s < 4; s++) {
            Made.putAll(x, s, 0, s + 1);
        }
        return x;
    }

    private static CompassMarriage withoutSheet2() {
        CompassMarriage x = Made.some();
        x.lose(2);
        return x;
    }

    /** An item that is the least int is no refusal: count() 8 tells. */
    private static void getOfTheLeastInt() {
        CompassMarriage x = new CompassMarriage();
        Made.putAll(x, 0, 2, LEAST);
        due("32 the least int", x.get(0, 2, 0), LEAST);
        due("32 is no finding", x.count(8), 0);
    }

    // ---- copy

    private static CompassMarriage twoRows() {
        CompassMarriage x = new CompassMarriage();
        Made.putAll(x, 0, 1, 1, 2, 3, 4, 5);
        Made.putAll(x, 1, 1, 6, 7, 8);
        Made.putAll(x, 2, 2, 9, 10, 11);
        return x;
    }

    private static void dueItems(String label, CompassMarriage x, int s, int form, int... want) {
        for (int i = 0; i < want.length; i++) {
            due(label + ": item " + i, x.get(s, form, i), want[i]);
        }
        due(label + ": no more", x.get(s, form, want.length), LEAST);
    }

    /** "n items of SHEET s, from i on": none, at the end and in an empty one, too; all of 60. */
    private static void copyOfNoneAndOfAll() {
        CompassMarriage x = twoRows();
        due("33 none", x.copy(0, 0, 1, 0, 0), 1);
        due("33 none at the ends", x.copy(0, 5, 1, 3, 0), 1);
        dueItems("33 nothing came", x, 1, 1, 6, 7, 8);
        due("33 the last to the last", x.copy(0, 4, 1, 2, 1), 1);
        dueItems("33 one came", x, 1, 1, 6, 7, 5);
        due("33 as many as fit", x.copy(0, 2, 1, 0, 3), 1);
        dueItems("33 three came", x, 1, 1, 3, 4, 5);
        dueItems("33 s stays", x, 0, 1, 1, 2, 3, 4, 5);
        CompassMarriage empty = new CompassMarriage();
        empty.sheet(0, 0, 0);
        empty.sheet(1, 0, 60);
        empty.sheet(2, 0, 60);
        due("33 none of none", empty.copy(0, 0, 0, 0, 0), 1);
        due("33 one of none", empty.copy(0, 0, 1, 0, 1), INDEX);
        due("33 one to none", empty.copy(1, 0, 0, 0, 1), INDEX);
        for (int i = 0; i < 60; i++) {
            empty.put(1, 0, i, i + 1);
        }
        due("33 all of 60", empty.copy(1, 0, 2, 0, 60), 1);
        for (int i = 0; i < 60; i++) {
            due("33 item " + i + " of 60", empty.get(2, 0, i), i + 1);
        }
        due("33 61 of 60", empty.copy(1, 0, 2, 0, 61), INDEX);
    }

    /** "(perhaps s, as they were)": onto itself, forth, back and in place. */
    private static void copyAsTheyWere() {
        CompassMarriage forth = twoRows();
        due("33 forth", forth.copy(0, 0, 0, 1, 4), 1);
        dueItems("33 forth", forth, 0, 1, 1, 1, 2, 3, 4);
        CompassMarriage back = twoRows();
        due("33 back", back.copy(0, 1, 0, 0, 4), 1);
        dueItems("33 back", back, 0, 1, 2, 3, 4, 5, 5);
        CompassMarriage same = twoRows();
        due("33 in place", same.copy(0, 0, 0, 0, 5), 1);
        dueItems("33 in place", same, 0, 1, 1, 2, 3, 4, 5);
        due("33 not so many in place", same.copy(0, 1, 0, 0, 5), INDEX);
        CompassMarriage far = twoRows();
        due("33 by three", far.copy(0, 0, 0, 3, 2), 1);
        dueItems("33 by three", far, 0, 1, 1, 2, 3, 1, 2);
    }

    /** "INDEX: below 0, not so many": of i, j and n on both sides, and where i and n together would wrap. */
    private static void copyNotSoMany() {
        int[][] wrong = {{-1, 0, 1}, {0, -1, 1}, {0, 0, -1}, {5, 0, 1}, {6, 0, 0}, {0, 3, 1}, {0, 4, 0}, {3, 0, 3}, {0, 1, 3},
            {0, 0, 4}, {2, 0, 4}, {-1, -1, 0}, {LEAST, 0, 0}, {0, LEAST, 0}, {0, 0, LEAST}, {MOST, 0, 0}, {0, MOST, 0},
            {0, 0, MOST}, {1, 0, MOST}, {0, 1, MOST}, {MOST, MOST, MOST}, {MOST, 0, 2}, {0, MOST, 2}, {6, 0, -1}, {5, 3, -2}};
        for (int[] w : wrong) {
            String label = "33 from " + w[0] + " to " + w[1] + ", " + w[2];
            Made.refused(label, SheetBoundsTest::twoRows, x -> x.copy(0, w[0], 1, w[1], w[2]), INDEX);
        }
        int[][] right = {{0, 0, 3}, {2, 0, 3}, {4, 2, 1}, {5, 3, 0}, {0, 0, 0}, {5, 0, 0}, {0, 3, 0}};
        for (int[] w : right) {
            due("33 from " + w[0] + " to " + w[1] + ", " + w[2], twoRows().copy(0, w[0], 1, w[1], w[2]), 1);
        }
    }

    /** Promise 33: "BAD: the SHEETS; NULL: s, t; STORE; INDEX". */
    private static void copyInItsOrder() {
        for (int i : new int[] {0, -1, 99}) {
            for (int wrong : new int[] {-1, 4, LEAST, MOST}) {
                for (int s = 0; s < 4; s++) {
                    int other = s;
                    Made.refused("33 from " + wrong + " to " + s, SheetBoundsTest::twoRows, x -> x.copy(wrong, i, other, 0, 1), BAD);
                    Made.refused("33 from " + s + " to " + wrong, SheetBoundsTest::twoRows, x -> x.copy(other, i, wrong, 0, 1), BAD);
                }
            }
            for (int s = 0; s < 4; s++) {
                int other = s;
                Made.refused("33 from a lost one to " + s, SheetBoundsTest::twoRows, x -> x.copy(3, i, other, 0, 1), NULL);
                Made.refused("33 from " + s + " to a lost one", SheetBoundsTest::twoRows, x -> x.copy(other, i, 3, 0, 1), NULL);
            }
            Made.refused("33 shorts to ints", SheetBoundsTest::twoRows, x -> x.copy(0, i, 2, 0, 1), STORE);
            Made.refused("33 ints to shorts", SheetBoundsTest::twoRows, x -> x.copy(2, i, 1, 0, 1), STORE);
            Made.refused("33 bytes to shorts", Made::some, x -> x.copy(0, i, 1, 0, 1), STORE);
            Made.refused("33 none of them, unlike", Made::some, x -> x.copy(0, i, 1, 0, 0), STORE);
        }
    }

    // ---- write

    /** Promise 34: "as many as there are items, 20 at most": 19, 20, 21, none; the rest stays. */
    private static void writeAsManyAsThereAre() {
        int[] arcs = {1, 2, 3, 4, 4, 1, 2, 3, 4, 4, 4, 4, 4, 4, 4, 4, 4, 4, 1, 2};
        for (int n : new int[] {0, 1, 2, 19, 20, 21, 60}) {
            CompassMarriage x = Made.of("553l;003l", Made.screw(5, 1, 3), Made.change(18, 1));
            x.sheet(3, 0, n);
            for (int i = 0; i < n; i++) {
                x.put(3, 0, i, -7);
            }
            due("34 of " + n, x.write(1, 3), Math.min(n, 20));
            for (int i = 0; i < n; i++) {
                due("34 item " + i + " of " + n, x.get(3, 0, i), i < 20 ? arcs[i] : -7);
            }
            due("34 so many stay of " + n, x.lose(3), n);
        }
    }

    /** Promise 34: a SHEET of any FORM. */
    private static void writeOfEachForm() {
        for (int form = 0; form < 3; form++) {
            CompassMarriage x = Made.of(Made.EIGHT);
            x.sheet(0, form, 20);
            due("34 form " + form, x.write(7, 0), 20);
            due("34 form " + form + ", the first", x.get(0, form, 0), 1);
            due("34 form " + form + ", the last", x.get(0, form, 19), 4);
        }
    }

    /** Promise 34: "BAD; NULL." */
    private static void writeInItsOrder() {
        Made.range("34 couple", Made::full, (x, c) -> x.write(c, 0), 0, 7, BAD);
        Made.range("34 couple of two", Made::some, (x, c) -> x.write(c, 0), 0, 1, BAD);
        Made.range("34 sheet", Made::full, (x, s) -> x.write(0, s), 0, 3, BAD);
        Made.range("34 couple, lost", Made::full, (x, c) -> x.write(c, 3), 0, 7, BAD);
        Made.refused("34 lost", Made::full, x -> x.write(0, 3), NULL);
        Made.refused("34 no such couple, lost", Made::some, x -> x.write(2, 3), BAD);
        Made.refused("34 no couples, lost", CompassMarriage::new, x -> x.write(0, 0), BAD);
        Made.refused("34 with a fault", () -> Made.of("003l;"), x -> x.write(0, 0), BAD);
    }

    // ---- count

    /** Promise 35: all of them 0 of a new one. */
    private static void countOfNone() {
        for (int what = 0; what <= 8; what++) {
            due("35 none of " + what, new CompassMarriage().count(what), 0);
        }
    }

    /** Promise 35: each at its most. */
    private static void countOfTheMost() {
        CompassMarriage full = Made.full();
        due("35 eight couples", full.count(0), 8);
        due("35 39 bytes", full.count(1), 39);
        due("35 eight events", full.count(2), 8);
        due("35 eight seen", full.count(7), 8);
        full.sheet(0, 0, -1);
        due("35 finding 5", full.count(8), 5);
        due("35 28 talked of", Made.of(Made.row(8, "9l")).count(3), 28);
        due("35 8 closed", Made.of(Made.row(8, "9l")).count(5), 8);
        // Behind day 19, not behind another one.
        CompassMarriage late = Made.of("003l;403l;963l", Made.screw(17, 0, 3));
        due("35 talked of on day 16", late.pairs(16, 0), 1);
        due("35 not behind day 19", late.count(3), 0);
        due("35 two closed", late.count(5), 2);
        CompassMarriage touching = Made.of("003l;603l", Made.screw(16, 0, 3));
        due("35 neighbours behind day 19", touching.count(4), 1);
        due("35 not behind day 18", touching.pairs(18, 1), 0);
        CompassMarriage sigh = Made.of("003l", Made.screw(17, 0, 3), Made.change(19, 0));
        due("35 a sigh on the last day", sigh.count(6), 1);
        CompassMarriage fault = Made.of("003l;", Made.change(1, 0));
        due("35 bytes with a fault", fault.count(1), 5);
        due("35 events with a fault", fault.count(2), 1);
        due("35 no sighs with a fault", fault.count(6), 0);
    }

    /** Promise 35: "BAD". */
    private static void countRefuses() {
        Made.range("35 what", Made::full, (x, what) -> x.count(what), 0, 8, BAD);
    }

    /** "8 the number of the latest FINDING (0 before any)": each of 1 to 5, kept by all that is no FINDING. */
    private static void theLatestFinding() {
        CompassMarriage x = Made.full();
        due("35 before any", x.count(8), 0);
        due("35 null", x.read(3), NULL);
        due("35 1", x.count(8), 1);
        due("35 index", x.put(0, 0, 9, 9), INDEX);
        due("35 2", x.count(8), 2);
        due("35 cast", x.put(0, 1, 0, 9), CAST);
        due("35 3", x.count(8), 3);
        due("35 store", x.copy(0, 0, 1, 0, 1), STORE);
        due("35 4", x.count(8), 4);
        due("35 size", x.sheet(0, 0, -1), SIZE);
        due("35 5", x.count(8), 5);
        x.type(0);
        x.type(-1);
        x.event(9, 9, 9, 9);
        x.event(0, 0, 0, 0);
        x.seen(0, 0, 0, 0);
        x.lose(7);
        x.get(7, 0, 0);
        x.gossip(-1, 0, 0);
        due("35 kept behind bad and full", x.count(8), 5);
        x.put(0, 0, 0, 1);
        x.sheet(0, 0, 3);
        x.lose(0);
        x.digest();
        due("35 kept behind what is well", x.count(8), 5);
        x.wipe();
        due("35 not behind not", x.undo(), Made.NOT);
        due("35 kept behind it", x.count(8), 5);
        due("35 null again", x.write(0, 3), BAD);
        due("35 bad, with no couples", x.count(8), 5);
        due("35 null once more", x.lose(0), NULL);
        due("35 1 again", x.count(8), 1);
    }

    // ---- digest

    /** Promise 36 without COUPLES: 8 counts, fault(), 60 of days, and 14 more. */
    private static void digestOfANewOne() {
        BigInteger h = BigInteger.valueOf(17).multiply(BigInteger.valueOf(31).pow(8));
        h = h.multiply(BigInteger.valueOf(31)).subtract(BigInteger.ONE);
        h = h.multiply(BigInteger.valueOf(31).pow(60));
        for (int v : new int[] {0, NONE, NONE, NONE, NONE, NONE, NONE, 0, NONE, 0, 0, 1, 0, 0}) {
            h = h.multiply(BigInteger.valueOf(31)).add(BigInteger.valueOf(v));
        }
        due("36 of a new one", new CompassMarriage().digest(), h.longValue());
    }

    /** Promise 36: "each of" the calls in their order, "as longs that wrap"; of none, of one, of eight, with a FAULT. */
    private static void digestByItsCalls() {
        List<Supplier<CompassMarriage>> all = new ArrayList<>();
        all.add(CompassMarriage::new);
        all.add(Made::full);
        all.add(Made::some);
        all.add(() -> Made.of("003l"));
        all.add(() -> Made.of(Made.EIGHT.substring(0, 38), Made.screw(0, 0, 1)));
        all.add(() -> Made.of(Made.row(8, "9l"), Made.change(9, 0), Made.change(0, 1), Made.change(12, 2)));
        all.add(() -> Made.of("001l;401l", Made.screw(0, 0, 3), Made.screw(0, 1, 3), Made.change(14, 0)));
        // By SEED 7 the sixth event, and no other, keeps couple 4 of seven from being closed.
        all.add(() -> Made.of("003l;900l;900l;900l;403l;900l;900l"));
        // Screws on the very days that digest() looks at, so that the day beside it answers otherwise.
        for (int day : new int[] {6, 7, 9, 10, 12, 13, 14, 15, 19}) {
            all.add(() -> Made.of("003l;403l;331b", Made.change(day, 0), Made.screw(day, 0, 5), Made.screw(day, 1, 1)));
            all.add(() -> Made.of("003l;403l;331b", Made.screw(day - 4, 0, 3), Made.leave(day, 1)));
            all.add(() -> Made.of("003b;403b;331b", Made.screw(day - 1, 0, 3), Made.change(day, 2)));
        }
        for (int i = 0; i < all.size(); i++) {
            due("36 by its calls, " + i, all.get(i).get().digest(), byCalls(all.get(i)));
        }
    }

    private static long byCalls(Supplier<CompassMarriage> make) {
        List<Long> row = new ArrayList<>();
        CompassMarriage x = make.get();
        int couples = x.count(0);
        for (int what = 0; what <= 7; what++) {
            row.add((long) x.count(what));
        }
        row.add((long) x.fault());
        for (int it = 0; it < couples; it++) {
            // One of its own for each, to stay far below 512 calls.
            addCouple(row, make.get(), it);
        }
        for (int one = 0; one < couples; one++) {
            for (int other = one + 1; other < couples; other++) {
                add(row, x.are(9, one, other), x.are(19, one, other));
            }
        }
        for (int day = 0; day <= 19; day++) {
            add(row, x.pairs(day, 0), x.pairs(day, 1), x.closed(day));
        }
        add(row, x.holes(), x.meets(0), x.meets(1), x.meets(2), x.swap(0), x.swap(1), x.swap(2));
        add(row, x.drop(NONE), x.drop(0), x.never());
        row.add(x.gossip(5, 14, 0));
        row.add(x.gossip(5, 14, 1));
        add(row, x.ages(7, 6, 0), x.ages(7, 6, 1));
        BigInteger h = BigInteger.valueOf(17);
        for (long v : row) {
            h = h.multiply(BigInteger.valueOf(31)).add(BigInteger.valueOf(v));
        }
        return h.longValue();
    }

    private static void addCouple(List<Long> row, CompassMarriage x, int it) {
        add(row, x.couple(it, 0), x.couple(it, 1), x.couple(it, 2), x.couple(it, 3));
        for (int day : new int[] {0, 6, 12, 19}) {
            add(row, x.at(day, it, 0), x.at(day, it, 1), x.at(day, it, 2), x.at(day, it, 3), x.at(day, it, 4));
            add(row, x.place(day, it, 0), x.place(day, it, 1), x.place(day, it, 2), x.place(day, it, 3));
        }
        add(row, x.ringed(it), x.open(it, 12, 0), x.open(it, 12, 1));
        add(row, x.stand(it, 12, 0), x.stand(it, 12, 1), x.stand(it, 12, 2), x.was(it, 0), x.was(it, 1), x.ask(it));
    }

    private static void add(List<Long> row, int... values) {
        for (int v : values) {
            row.add((long) v);
        }
    }

    /** Promise 36: neither SHEETS nor the latest FINDING are in it, and it changes nothing. */
    private static void digestLeavesFindings() {
        CompassMarriage x = Made.full();
        long before = x.digest();
        x.lose(3);
        x.put(0, 0, 0, 99);
        x.lose(1);
        due("36 sheets are not in it", x.digest(), before);
        due("36 the finding stays", x.count(8), 1);
        CompassMarriage looked = Made.full();
        looked.digest();
        Check.isTrue("36 changes nothing", Made.portrait(looked).equals(Made.portrait(Made.full())));
    }
}
