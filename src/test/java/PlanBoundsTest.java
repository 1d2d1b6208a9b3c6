/** The plans, promises 18 to 21, at their bounds: a method for each sentence. */
public final class PlanBoundsTest {
    private static final int NONE = Made.NONE, BAD = Made.BAD;

    public static void main(String[] args) {
        openIsFrom0To9();
        openOfLikeOnesTheLeast();
        openCountsOthersClosedOrNot();
        openIsAsTold();
        openRefuses();
        standIsFrom0To9();
        standOfLikeOnesTheLeast();
        standCountsTouchingOnes();
        standIsAsTold();
        standRefuses();
        swapOfLessThanTwo();
        swapIsTheFewest();
        swapOfLikeOnesTheLeastRow();
        swapBehindDay19();
        swapRefuses();
        dropOfNone();
        dropOfOne();
        dropOfTwo();
        dropOfMoreIsNone();
        dropOfLikeOnesTheLeastRow();
        dropBehindDay19();
        dropRefuses();
        Check.end();
    }

    private static void due(String call, long got, long want) {
        Check.due(call, got, want);
    }

    // ---- open

    private static void dueOpen(String label, CompassMarriage x, int couple, int day, int which, int many) {
        due("18 " + label + ": which", x.open(couple, day, 0), which);
        due("18 " + label + ": how many", x.open(couple, day, 1), many);
    }

    /**
     * "the SPREAD (0 to 9)": changed over on day 0 and screwed to 9 then, a couple from (0,0) stands at (SPREAD,0), 9 wide,
     * and crosses another one that is 9 wide unless they are alike.
     */
    private static void openIsFrom0To9() {
        for (int at = 0; at <= 9; at++) {
            CompassMarriage x = Made.of("003l;" + at + "09l", Made.change(0, 0), Made.screw(0, 0, 9));
            dueOpen("alike at " + at, x, 0, 19, at, 0);
        }
        // Changed over, too, the other one stands at (10,0): only a spread of 10 would do.
        CompassMarriage beyond = Made.of("003l;901l", Made.change(0, 0), Made.screw(0, 0, 9), Made.change(0, 1), Made.screw(0, 1, 9));
        due("18 the other stands at 10", beyond.place(0, 1, 0), 10);
        dueOpen("no spread of 10", beyond, 0, 0, 0, 1);
    }

    /** "of like ones the least". */
    private static void openOfLikeOnesTheLeast() {
        dueOpen("nobody else", Made.of("559l"), 0, 19, 0, 0);
        dueOpen("all alike by a screw", Made.of("003l;403l", Made.screw(0, 0, 3)), 0, 0, 0, 1);
        // From (SPREAD,0), 9 wide: alike at 4 and at 7, each crossing the other one; elsewhere both.
        CompassMarriage two = Made.of("003l;409l;709l", Made.change(0, 0), Made.screw(0, 0, 9));
        dueOpen("4 or 7", two, 0, 19, 4, 1);
        CompassMarriage three = Made.of("003l;409l;709l;709l", Made.change(0, 0), Made.screw(0, 0, 9));
        dueOpen("7 by fewer", three, 0, 19, 7, 1);
    }

    /** "by which it CROSSES fewest other ones behind it (CLOSED or not)": not itself, not those that TOUCH. */
    private static void openCountsOthersClosedOrNot() {
        CompassMarriage none = Made.of("003l;403l;903l", Made.screw(0, 0, 3));
        due("18 none is closed on day 0", none.closed(0), 0);
        dueOpen("not closed", none, 0, 0, 0, 1);
        dueOpen("closed", none, 0, 19, 0, 1);
        CompassMarriage all = Made.of(Made.row(8, "9l"), Made.screw(0, 7, 9));
        dueOpen("seven others", all, 7, 19, 0, 7);
        dueOpen("seven others of the first", Made.of(Made.row(8, "9l"), Made.screw(19, 0, 9)), 0, 19, 0, 7);
        dueOpen("one that touches", Made.of("003l;603l", Made.screw(0, 0, 3)), 0, 19, 0, 0);
        dueOpen("one that touches from within", Made.of("003l;201l", Made.screw(0, 0, 3)), 0, 19, 0, 0);
        dueOpen("one that is alike", Made.of("003l;003l", Made.screw(0, 0, 3)), 0, 19, 0, 0);
        // Of spread 0 it goes not round: a point crosses nobody.
        dueOpen("a point", Made.of("009l;109l;209l"), 0, 19, 0, 0);
    }

    /** "as told, in place of its own": events go on being done, and what is told stays. */
    private static void openIsAsTold() {
        CompassMarriage x = Made.of("003l;403l", Made.screw(5, 0, 3));
        dueOpen("ahead of the screw", x, 0, 4, 0, 0);
        dueOpen("behind the screw", x, 0, 5, 0, 1);
        due("18 the spread stays", x.couple(0, 2), 3);
        long before = x.digest();
        x.open(0, 19, 0);
        due("18 all stays", x.digest(), before);
        // Two wide is told of the other one, not of this.
        dueOpen("the other's own stays", Made.of("009l;402l"), 1, 19, 0, 0);
    }

    /** Promise 18: "BAD". */
    private static void openRefuses() {
        Made.range("18 couple", Made::full, (x, c) -> x.open(c, 0, 0), 0, 7, BAD);
        Made.range("18 couple of two", Made::some, (x, c) -> x.open(c, 0, 1), 0, 1, BAD);
        Made.range("18 day", Made::full, (x, day) -> x.open(7, day, 0), 0, 19, BAD);
        Made.range("18 what", Made::full, (x, what) -> x.open(0, 19, what), 0, 1, BAD);
        Made.refused("18 of no couples", CompassMarriage::new, x -> x.open(0, 0, 0), BAD);
    }

    // ---- stand

    private static void dueStand(String label, CompassMarriage x, int couple, int day, int... want) {
        for (int what = 0; what < 3; what++) {
            due("19 " + label + ": what " + what, x.stand(couple, day, what), want[what]);
        }
    }

    /** "the place (x, y 0 to 9)": a point, 0 wide, touches a ring where it is on it. */
    private static void standIsFrom0To9() {
        // On the rings about (9,8), (8,9) and (9,4) is (9,9) alone; so with the other corners.
        dueStand("to 9, 9", Made.of("550l;981l;891l;945l"), 0, 0, 9, 9, 3);
        dueStand("to 0, 0", Made.of("550l;011l;101l;055l"), 0, 0, 0, 0, 3);
        dueStand("to 9, 0", Made.of("550l;911l;801l;955l"), 0, 0, 9, 0, 3);
        dueStand("to 0, 9", Made.of("550l;081l;191l;045l"), 0, 0, 0, 9, 3);
        // On both rings is but one place, beyond 9 or below 0; within them one ring at a time, the least x, then y.
        dueStand("not x 10", Made.of("550l;981l;585l"), 0, 0, 0, 8, 1);
        dueStand("not x 10 behind the last place", Made.of("550l;901l;505l"), 0, 0, 0, 0, 1);
        dueStand("not x -1", Made.of("550l;081l;485l"), 0, 0, 0, 5, 1);
        dueStand("not y 10", Made.of("550l;891l;855l"), 0, 0, 3, 5, 1);
        dueStand("not y -1", Made.of("550l;801l;845l"), 0, 0, 3, 4, 1);
    }

    /** "of like ones the least x, then y". */
    private static void standOfLikeOnesTheLeast() {
        dueStand("nobody else", Made.of("998l"), 0, 19, 0, 0, 0);
        dueStand("nobody to touch", Made.of("999l;009l", Made.screw(0, 0, 0), Made.screw(0, 1, 0)), 0, 0, 0, 0, 0);
        // On the ring of 2 about (5,5) are (3,5), (5,3), (5,7), (7,5).
        dueStand("the least x", Made.of("990l;552l"), 0, 0, 3, 5, 1);
        // On the ring of 2 about (1,5) are (-1,5), (1,3), (1,7), (3,5): of x 1 the least y.
        dueStand("then the least y", Made.of("990l;152l"), 0, 0, 1, 3, 1);
    }

    /** "by which it TOUCHES (or from WITHIN) most other ones behind it": closed or not, not itself, not those ALIKE. */
    private static void standCountsTouchingOnes() {
        // 1 wide beside 3 wide: by 4 from outside, by 2 from within.
        dueStand("from outside", Made.of("991l;553l"), 0, 0, 1, 5, 1);
        dueStand("from within", Made.of("991l;553l;353l"), 0, 0, 1, 5, 2);
        due("19 none is closed", Made.of("991l;553l;353l").closed(0), 0);
        // Seven at one place, 3 wide each: 3 wide, it touches them all by 6; alike it touches none.
        dueStand("seven others", Made.of("993l;003l;003l;003l;003l;003l;003l;003l"), 0, 0, 0, 6, 7);
        dueStand("seven others of the last", Made.of("003l;003l;003l;003l;003l;003l;003l;993l"), 7, 19, 0, 6, 7);
        // Apart, crossing and alike ones count for nothing: 9 wide beside 9 wide by less than 18.
        dueStand("crossing", Made.of("009l;009l", Made.screw(0, 0, 9)), 0, 0, 0, 0, 0);
    }

    /** "as told, in place of its own": events go on being done, and what is told stays. */
    private static void standIsAsTold() {
        // Changed over on day 1, at way 1, its point is by 2 more y than told; then it is a point.
        CompassMarriage x = Made.of("992l;552l", Made.change(1, 0), Made.screw(1, 0, 0));
        dueStand("moved by 2 more y", x, 0, 1, 3, 3, 1);
        // Two wide each, ahead of it: (1,5) is by 4 away from (5,5).
        dueStand("not yet", x, 0, 0, 1, 5, 1);
        CompassMarriage less = Made.of("992l;552l", Made.change(2, 0), Made.screw(2, 0, 0));
        dueStand("moved by 2 less x", less, 0, 2, 5, 5, 1);
        CompassMarriage off = Made.of("999l;551l", Made.change(0, 0), Made.screw(0, 0, 0));
        dueStand("moved off by 9 more x", off, 0, 0, 0, 0, 0);
        due("19 x stays", x.couple(0, 0), 9);
        due("19 y stays", x.couple(0, 1), 9);
        long before = x.digest();
        x.stand(0, 19, 0);
        due("19 all stays", x.digest(), before);
    }

    /** Promise 19: "BAD". */
    private static void standRefuses() {
        Made.range("19 couple", Made::full, (x, c) -> x.stand(c, 0, 0), 0, 7, BAD);
        Made.range("19 couple of two", Made::some, (x, c) -> x.stand(c, 0, 1), 0, 1, BAD);
        Made.range("19 day", Made::full, (x, day) -> x.stand(7, day, 0), 0, 19, BAD);
        Made.range("19 what", Made::full, (x, what) -> x.stand(0, 19, what), 0, 2, BAD);
        Made.refused("19 of no couples", CompassMarriage::new, x -> x.stand(0, 0, 0), BAD);
    }

    // ---- swap

    private static void dueSwap(String label, CompassMarriage x, int... want) {
        for (int what = 0; what < 3; what++) {
            due("20 " + label + ": what " + what, x.swap(what), want[what]);
        }
    }

    /** "NONE: there are less than two." */
    private static void swapOfLessThanTwo() {
        dueSwap("none", new CompassMarriage(), NONE, NONE, NONE);
        dueSwap("one", Made.of("003l"), NONE, NONE, NONE);
        dueSwap("two with a fault", Made.of("003l;403l;"), NONE, NONE, NONE);
        dueSwap("two", Made.of("003l;903l"), 0, 1, 0);
    }

    /** "the two COUPLES (the first less) .. so that fewest are TALKED of": from the first two to the last two. */
    private static void swapIsTheFewest() {
        dueSwap("two, whatever comes of it", Made.of("003l;403l"), 0, 1, 1);
        // As told 5 and 6 cross. 5 wide, 6 has 5 within it and touches those at (0,0); 5 would cross all of them.
        dueSwap("the last two", Made.of("003l;003l;003l;003l;003l;703l;803l;095l"), 6, 7, 0);
        dueSwap("the first two", Made.of("095l;803l;703l;003l;003l;003l;003l;003l"), 0, 1, 0);
        dueSwap("the first and the last", Made.of("095l;703l;003l;003l;003l;003l;003l;803l"), 0, 7, 0);
        // Eight, 9 wide each, cross one another whichever change screws.
        dueSwap("all 28", Made.of(Made.row(8, "9l")), 0, 1, 28);
        // As told they touch, each the other two; whichever two change screws, one pair crosses then.
        due("20 nobody is talked of as told", Made.of("403l;801l;832l").pairs(19, 0), 0);
        dueSwap("worse than as told", Made.of("403l;801l;832l"), 0, 1, 1);
    }

    /** "of like ones the least row". */
    private static void swapOfLikeOnesTheLeastRow() {
        dueSwap("any", Made.of("001l;501l;901l"), 0, 1, 0);
        // As told 0 and 1 cross; with the point 0 wide of 2 or of 3 either of them crosses nobody.
        dueSwap("0 and 2, 0 and 3, 1 and 2, 1 and 3", Made.of("003l;403l;990l;090l"), 0, 2, 0);
        // As told 1 and 2 cross; 0 is a point: 0 and 1 goes ahead of 0 and 2.
        dueSwap("0 and 1, 0 and 2", Made.of("990l;003l;403l"), 0, 1, 0);
        // As told 1 and 2 cross; 2 wide, for that of 0, they cross still; 0 is screwed to a point in any case.
        dueSwap("1 and 3, 2 and 3", Made.of("202l;003l;403l;990l", Made.screw(0, 0, 0)), 1, 3, 0);
    }

    /** "behind DAY 19": those CLOSED then; events go on being done, and what is told stays. */
    private static void swapBehindDay19() {
        dueSwap("not closed behind day 19", Made.of("003l;403l", Made.screw(17, 0, 3)), 0, 1, 0);
        dueSwap("closed behind day 19", Made.of("003l;403l", Made.screw(16, 0, 3)), 0, 1, 1);
        CompassMarriage x = Made.of("003l;403l;990l");
        long before = x.digest();
        x.swap(0);
        due("20 all stays", x.digest(), before);
        due("20 its spread stays", x.couple(0, 2), 3);
        due("20 the other's stays", x.couple(2, 2), 0);
    }

    /** Promise 20: "BAD", where there would be NONE, too. */
    private static void swapRefuses() {
        Made.range("20 what", Made::full, (x, what) -> x.swap(what), 0, 2, BAD);
        Made.range("20 what of none", CompassMarriage::new, (x, what) -> x.swap(what), 0, 2, BAD);
        Made.range("20 what of one", () -> Made.of("003l"), (x, what) -> x.swap(what), 0, 2, BAD);
    }

    // ---- drop

    private static void dueDrop(String label, CompassMarriage x, int... want) {
        for (int i = NONE; i <= 1; i++) {
            due("21 " + label + ": i " + i, x.drop(i), want[i + 1]);
        }
    }

    /** 1 wide beside 3 wide it touches; 3 wide it crosses: each such screw alone is enough for talk. */
    private static CompassMarriage quiet(int[]... events) {
        return Made.of("003l;401l", events);
    }

    /** "the fewest EVENTS (0 to 2)": none, as nobody is talked of. */
    private static void dropOfNone() {
        dueDrop("no couples", new CompassMarriage(), 0, NONE, NONE);
        dueDrop("no events", quiet(), 0, NONE, NONE);
        dueDrop("harmless events", quiet(Made.leave(9, 0), Made.leave(9, 1)), 0, NONE, NONE);
        dueDrop("no couples by a fault", Made.of("003l;403l;"), 0, NONE, NONE);
    }

    /** "how many; the i-th": one, from the first of eight to the last. */
    private static void dropOfOne() {
        for (int bad = 0; bad < 8; bad++) {
            CompassMarriage x = quiet();
            for (int k = 0; k < 8; k++) {
                Made.tell(x, k == bad ? Made.screw(0, 1, 3) : Made.leave(19, 0));
            }
            dueDrop("event " + bad + " of eight", x, 1, bad, NONE);
        }
    }

    /** "each more than the one ahead": two, from the first two of eight to the last two. */
    private static void dropOfTwo() {
        for (int one = 0; one < 8; one++) {
            for (int other = one + 1; other < 8; other++) {
                CompassMarriage x = quiet();
                for (int k = 0; k < 8; k++) {
                    Made.tell(x, k == one || k == other ? Made.screw(0, 1, 3) : Made.leave(19, 0));
                }
                dueDrop("events " + one + " and " + other, x, 2, one, other);
            }
        }
    }

    /** "NONE": by two it is not to be had. */
    private static void dropOfMoreIsNone() {
        CompassMarriage three = quiet(Made.screw(0, 1, 3), Made.screw(1, 1, 3), Made.screw(2, 1, 3));
        dueDrop("three would do", three, NONE, NONE, NONE);
        dueDrop("no events, and talked of", Made.of("003l;403l"), NONE, NONE, NONE);
        dueDrop("nothing helps", Made.of("003l;403l", Made.leave(9, 0)), NONE, NONE, NONE);
    }

    /** "of like ones the least row", and fewer ones ahead of lesser ones. */
    private static void dropOfLikeOnesTheLeastRow() {
        // They cross when both are 3 wide; 3 wide and 1 wide they touch.
        CompassMarriage either = Made.of("001l;401l", Made.screw(0, 0, 3), Made.screw(0, 1, 3));
        dueDrop("either", either, 1, 0, NONE);
        // Both screws of 0 or the one of 1.
        CompassMarriage fewer = Made.of("001l;401l", Made.screw(0, 0, 3), Made.screw(1, 0, 3), Made.screw(0, 1, 3));
        dueDrop("the third alone, not the first two", fewer, 1, 2, NONE);
        // Two pairs are alike: those of 0, or those of 1.
        CompassMarriage pairs = Made.of("001l;401l", Made.screw(0, 1, 3), Made.screw(0, 0, 3), Made.screw(1, 0, 3),
            Made.screw(1, 1, 3));
        dueDrop("0 and 3 ahead of 1 and 2", pairs, 2, 0, 3);
    }

    /** "nobody is TALKED of behind DAY 19": on that day alone, by those closed then. */
    private static void dropBehindDay19() {
        CompassMarriage sooner = Made.of("003l;403l", Made.screw(17, 0, 3));
        due("21 talked of on day 16", sooner.pairs(16, 0), 1);
        dueDrop("but not behind day 19", sooner, 0, NONE, NONE);
        CompassMarriage later = Made.of("003l;401l", Made.screw(16, 1, 3));
        due("21 not talked of on day 18", later.pairs(18, 0), 0);
        dueDrop("but behind day 19", later, 1, 0, NONE);
        long before = later.digest();
        later.drop(0);
        due("21 all stays", later.digest(), before);
        due("21 its event stays", later.count(2), 1);
    }

    /** Promise 21: i from NONE to 1; "BAD", whether there are such or not. */
    private static void dropRefuses() {
        for (int i : new int[] {-2, 2, Made.LEAST, Made.MOST}) {
            Made.refused("21 of a full one, i " + i, Made::full, x -> x.drop(i), BAD);
            Made.refused("21 of none, i " + i, CompassMarriage::new, x -> x.drop(i), BAD);
            Made.refused("21 not to be had, i " + i, () -> Made.of("003l;403l"), x -> x.drop(i), BAD);
        }
        Made.range("21 i", Made::full, (x, i) -> x.drop(i), NONE, 1, BAD);
    }
}
