/** How a DAY goes, what two COUPLES are, and promises 10 to 17, at their bounds: a method for each sentence. */
public final class DayBoundsTest {
    private static final int NONE = Made.NONE, BAD = Made.BAD, LEAST = Made.LEAST;

    public static void main(String[] args) {
        theLegByItsWay();
        wayIs0AtFirst();
        theWayIsNextAnd0Behind3();
        arcs4AtMost();
        of4ItIsClosed();
        aSpreadOf0GoesNotRound();
        aStiffOneOnEvenDays();
        eventsFirstAsTold();
        byAScrewArcsBecome0();
        aScrewTo0AndFrom0();
        byAChangePointAndLeg();
        aSighIfArcsWere1To3();
        sighsAreCountedEach();
        leftGoesNoMore();
        twoCouplesAre();
        twoCouplesAtEachBound();
        twoCouplesAsTheyAre();
        talkedBothClosed();
        neighboursBothClosed();
        allPairs();
        closedAsBits();
        holesBehindAnyDay();
        ringedFirstDay();
        meetsFirstDay();
        meetsLeastCouples();
        refusalsOfDays();
        Check.end();
    }

    private static void due(String call, long got, long want) {
        Check.due(call, got, want);
    }

    private static void dueLeg(String label, CompassMarriage x, int day, int legX, int legY) {
        due(label + ": leg x behind " + day, x.place(day, 0, 2), legX);
        due(label + ": leg y behind " + day, x.place(day, 0, 3), legY);
    }

    private static void duePoint(String label, CompassMarriage x, int day, int pointX, int pointY) {
        due(label + ": point x behind " + day, x.place(day, 0, 0), pointX);
        due(label + ": point y behind " + day, x.place(day, 0, 1), pointY);
    }

    // ---- how a day goes

    /** "The LEG is by SPREAD away from the POINT, by its WAY: 0 more x, 1 more y, 2 less x, 3 less y". */
    private static void theLegByItsWay() {
        int[][] steps = {{0, 1}, {-1, 0}, {0, -1}, {1, 0}};
        for (int spread = 1; spread <= 9; spread++) {
            CompassMarriage x = Made.of("56" + spread + "l");
            for (int day = 0; day < 4; day++) {
                dueLeg("by way, " + spread + " wide", x, day, 5 + spread * steps[day][0], 6 + spread * steps[day][1]);
                duePoint("by way, " + spread + " wide", x, day, 5, 6);
            }
        }
        CompassMarriage below = Made.of("009l");
        dueLeg("less than 0", below, 1, -9, 0);
        dueLeg("less than 0", below, 2, 0, -9);
    }

    /** "0 at first": the WAY of one that never went round, and its ARCS. */
    private static void wayIs0AtFirst() {
        CompassMarriage left = Made.of("563l", Made.leave(0, 0));
        due("10 way at first", left.at(0, 0, 1), 0);
        due("10 arcs at first", left.at(0, 0, 2), 0);
        dueLeg("at first", left, 0, 8, 6);
        CompassMarriage none = Made.of("560l");
        due("10 way of spread 0", none.at(19, 0, 1), 0);
        dueLeg("of spread 0", none, 19, 5, 6);
    }

    /** "its WAY becomes the next one, 0 behind 3", a beam's by two; on all DAYS, for each sort. */
    private static void theWayIsNextAnd0Behind3() {
        for (int day = 0; day < 20; day++) {
            due("10 way, loose, behind " + day, Made.of("561l").at(day, 0, 1), (day + 1) % 4);
            due("10 way, stiff, behind " + day, Made.of("561s").at(day, 0, 1), (day / 2 + 1) % 4);
            due("10 way, a beam, behind " + day, Made.of("561b").at(day, 0, 1), day % 2 == 0 ? 2 : 0);
        }
        CompassMarriage beam = Made.of("561b", Made.change(0, 0));
        due("10 way of a beam, changed over: 2, and two more", beam.at(0, 0, 1), 0);
    }

    /** "ARCS .. 0 at first, 4 at most"; "there is an ARC more", a beam has two; on all DAYS, for each sort. */
    private static void arcs4AtMost() {
        for (int day = 0; day < 20; day++) {
            due("10 arcs, loose, behind " + day, Made.of("561l").at(day, 0, 2), Math.min(4, day + 1));
            due("10 arcs, stiff, behind " + day, Made.of("561s").at(day, 0, 2), Math.min(4, day / 2 + 1));
            due("10 arcs, a beam, behind " + day, Made.of("561b").at(day, 0, 2), Math.min(4, 2 * day + 2));
        }
    }

    /** "of 4 it is CLOSED", of 3 it is not. */
    private static void of4ItIsClosed() {
        CompassMarriage x = Made.of("561l");
        due("14 of 3 arcs", x.at(2, 0, 2), 3);
        due("14 of 3 arcs not", x.closed(2), 0);
        due("14 of 4 arcs", x.at(3, 0, 2), 4);
        due("14 of 4 arcs it is", x.closed(3), 1);
        due("14 and goes on being", x.closed(19), 1);
    }

    /** "of SPREAD 1 or more": 1 goes round, 0 does not, of each sort. */
    private static void aSpreadOf0GoesNotRound() {
        for (char sort : "slb".toCharArray()) {
            CompassMarriage none = Made.of("560" + sort);
            CompassMarriage one = Made.of("561" + sort);
            for (int day = 0; day < 20; day += 19) {
                due("10 spread 0 " + sort + ": way", none.at(day, 0, 1), 0);
                due("10 spread 0 " + sort + ": arcs", none.at(day, 0, 2), 0);
                Check.isTrue("10 spread 1 " + sort + ": arcs", one.at(day, 0, 2) > 0);
            }
            due("16 spread 0 " + sort, none.ringed(0), NONE);
            Check.isTrue("16 spread 1 " + sort, one.ringed(0) > 0);
        }
    }

    /** "a stiff one on even DAYS alone": 0 and 18 are, 1 and 19 are not. */
    private static void aStiffOneOnEvenDays() {
        CompassMarriage x = Made.of("561s", Made.screw(18, 0, 2));
        due("10 stiff on 0", x.at(0, 0, 2), 1);
        due("10 stiff not on 1", x.at(1, 0, 2), 1);
        due("10 stiff on 2", x.at(2, 0, 2), 2);
        due("10 stiff on 18", x.at(18, 0, 2), 1);
        due("10 stiff not on 19", x.at(19, 0, 2), 1);
        for (int day = 0; day < 20; day++) {
            CompassMarriage y = Made.of("560s", Made.screw(day, 0, 2));
            due("10 stiff, on its own day " + day, y.at(day, 0, 2), day % 2 == 0 ? 1 : 0);
            due("10 stiff, way on its own day " + day, y.at(day, 0, 1), day % 2 == 0 ? 1 : 0);
        }
    }

    /** "On a DAY first its EVENTS are done, as told": by their DAYS, on one DAY by the order told, ahead of the round. */
    private static void eventsFirstAsTold() {
        CompassMarriage days = Made.of("003l", Made.screw(19, 0, 9), Made.screw(5, 0, 5), Made.screw(0, 0, 1),
            Made.screw(10, 0, 7));
        int[][] want = {{0, 1}, {4, 1}, {5, 5}, {9, 5}, {10, 7}, {18, 7}, {19, 9}};
        for (int[] w : want) {
            due("10 by days, behind " + w[0], days.at(w[0], 0, 0), w[1]);
        }
        CompassMarriage told = new CompassMarriage();
        for (char sign : "003l".toCharArray()) {
            told.type(sign);
        }
        for (int n = 1; n <= 8; n++) {
            told.event(0, 4, 0, n);
            due("10 the one told last of " + n + " on one day", told.at(4, 0, 0), n);
            due("10 and none ahead of it", told.at(3, 0, 0), 3);
        }
        // Ahead of the round: changed over at way 0, it goes round by a quarter from way 2.
        CompassMarriage ahead = Made.of("003l", Made.change(0, 0));
        due("10 way behind it", ahead.at(0, 0, 1), 3);
        CompassMarriage left = Made.of("003l", Made.leave(0, 0));
        due("10 left ahead of its first round", left.at(0, 0, 1), 0);
        CompassMarriage screwed = Made.of("000l", Made.screw(0, 0, 1));
        due("10 screwed ahead of its first round", screwed.at(0, 0, 2), 1);
    }

    /** "by a SCREW ARCS become 0", whatever they were, by the like number, too; the WAY goes on. */
    private static void byAScrewArcsBecome0() {
        for (int day = 0; day < 20; day++) {
            CompassMarriage x = Made.of("003l", Made.screw(day, 0, 3));
            due("10 arcs anew on " + day, x.at(day, 0, 2), 1);
            due("10 way goes on on " + day, x.at(day, 0, 1), (day + 1) % 4);
            due("10 no sigh on " + day, x.at(day, 0, 4), 0);
            duePoint("screw", x, day, 0, 0);
        }
    }

    /** A SCREW to a SPREAD of 0 keeps the WAY and goes no more; one from it goes on by that WAY. */
    private static void aScrewTo0AndFrom0() {
        CompassMarriage x = Made.of("563l", Made.screw(2, 0, 0), Made.screw(9, 0, 2));
        due("10 way kept at once", x.at(2, 0, 1), 2);
        due("10 way kept", x.at(8, 0, 1), 2);
        due("10 no arcs", x.at(8, 0, 2), 0);
        dueLeg("of spread 0", x, 8, 5, 6);
        due("10 way goes on", x.at(9, 0, 1), 3);
        due("10 arcs again", x.at(9, 0, 2), 1);
        dueLeg("spread again", x, 9, 5, 4);
    }

    /** "by a CHANGE the POINT is where the LEG was, its WAY is the one opposite, ARCS become 0": from each WAY. */
    private static void byAChangePointAndLeg() {
        // On day d the way is d % 4; behind the change it is opposite, and a quarter more.
        int[][] points = {{8, 6}, {5, 9}, {2, 6}, {5, 3}};
        int[][] legs = {{8, 3}, {8, 9}, {2, 9}, {2, 3}};
        for (int day = 0; day < 20; day++) {
            CompassMarriage x = Made.of("563l", Made.change(day, 0));
            duePoint("changed over on " + day, x, day, points[day % 4][0], points[day % 4][1]);
            dueLeg("changed over on " + day, x, day, legs[day % 4][0], legs[day % 4][1]);
            due("10 way, changed over on " + day, x.at(day, 0, 1), (day + 3) % 4);
            due("10 arcs, changed over on " + day, x.at(day, 0, 2), 1);
            due("10 spread, changed over on " + day, x.at(day, 0, 0), 3);
            if (day > 0) {
                duePoint("changed over on " + day, x, day - 1, 5, 6);
            }
        }
        // Left on day 0 it does not go round: places have changed, and change again to what they were.
        CompassMarriage left = Made.of("563l", Made.leave(0, 0), Made.change(1, 0), Made.change(2, 0));
        duePoint("changed", left, 1, 8, 6);
        dueLeg("changed", left, 1, 5, 6);
        duePoint("changed twice", left, 2, 5, 6);
        dueLeg("changed twice", left, 2, 8, 6);
        CompassMarriage none = Made.of("560l", Made.change(3, 0));
        duePoint("changed of spread 0", none, 3, 5, 6);
        due("10 way of spread 0, changed", none.at(3, 0, 1), 2);
    }

    /** "there is a SIGH more of that COUPLE, if they were 1 to 3": not of 0, not of 4; for each sort and DAY. */
    private static void aSighIfArcsWere1To3() {
        for (int day = 0; day < 20; day++) {
            int[] arcs = {Math.min(4, (day + 1) / 2), Math.min(4, day), Math.min(4, 2 * day)};
            for (int sort = 0; sort < 3; sort++) {
                CompassMarriage x = Made.of("563" + "slb".charAt(sort), Made.change(day, 0));
                String label = "10 sigh of " + arcs[sort] + " arcs on " + day;
                due(label, x.at(day, 0, 4), arcs[sort] >= 1 && arcs[sort] <= 3 ? 1 : 0);
                due(label + ", later", x.at(19, 0, 4), x.at(day, 0, 4));
                due(label + ", in all", x.count(6), x.at(day, 0, 4));
                if (day > 0) {
                    due(label + ", not sooner", x.at(day - 1, 0, 4), 0);
                }
            }
        }
        due("10 none twice on one day", Made.of("563l", Made.change(1, 0), Made.change(1, 0)).at(19, 0, 4), 1);
        due("10 none behind a screw", Made.of("563l", Made.screw(1, 0, 4), Made.change(1, 0)).at(19, 0, 4), 0);
        due("10 none of spread 0", Made.of("560l", Made.change(3, 0)).at(19, 0, 4), 0);
    }

    /** SIGHS of one COUPLE, and in all: up to as many as there are EVENTS. */
    private static void sighsAreCountedEach() {
        CompassMarriage one = Made.of("563l;113l");
        CompassMarriage each = Made.of(Made.row(8, "1l"));
        for (int n = 0; n < 8; n++) {
            one.event(1, n + 1, 0, 0);
            each.event(1, 1, n, 0);
        }
        due("10 eight of one", one.at(19, 0, 4), 8);
        due("10 none of the other", one.at(19, 1, 4), 0);
        due("10 four by day 4", one.at(4, 0, 4), 4);
        due("35 eight in all", one.count(6), 8);
        for (int c = 0; c < 8; c++) {
            due("10 one of each: " + c, each.at(1, c, 4), 1);
            due("10 none of each yet: " + c, each.at(0, c, 4), 0);
        }
        due("35 of each, in all", each.count(6), 8);
    }

    /** "one is LEFT: its LEG goes no more": from that DAY on, the first, the last; twice is as once. */
    private static void leftGoesNoMore() {
        for (int day = 0; day < 20; day++) {
            CompassMarriage x = Made.of("563l;113l", Made.leave(day, 0));
            due("10 left on " + day, x.at(day, 0, 3), 1);
            due("10 left on " + day + ": way", x.at(19, 0, 1), day % 4);
            due("10 left on " + day + ": arcs", x.at(19, 0, 2), Math.min(4, day));
            due("10 the other is not", x.at(19, 1, 3), 0);
            due("10 the other goes on", x.at(19, 1, 1), 0);
            if (day > 0) {
                due("10 not yet left on " + (day - 1), x.at(day - 1, 0, 3), 0);
            }
        }
        CompassMarriage twice = Made.of("563l", Made.leave(2, 0), Made.leave(9, 0));
        due("10 left twice", twice.at(19, 0, 3), 1);
        due("10 left twice: way", twice.at(19, 0, 1), 2);
        duePoint("left with the point", twice, 19, 5, 6);
    }

    // ---- what two couples are

    /** Two COUPLES by the document's own words, for all SPREADS and all POINTS that can be told. */
    private static void twoCouplesAre() {
        for (int one = 0; one <= 9; one++) {
            for (int other = 0; other <= 9; other++) {
                for (int at = 0; at < 100; at++) {
                    int d = at / 10 * (at / 10) + at % 10 * (at % 10);
                    String text = "00" + one + "l;" + at / 10 + at % 10 + other + "l";
                    due("12 " + text, Made.of(text).are(0, 0, 1), relation(d, one, other));
                }
            }
        }
    }

    private static int relation(int d, int one, int other) {
        int together = (one + other) * (one + other);
        int differ = (one - other) * (one - other);
        if (d == 0 && one == other) {
            return 5;
        }
        return d > together ? 0 : d == together ? 1 : d < differ ? 4 : d == differ ? 3 : 2;
    }

    /** "above", "just that", "less than": right at each bound and one beside it. */
    private static void twoCouplesAtEachBound() {
        String[] texts = {
            "003l;502l", "003l;512l", "003l;492l", "003l;432l", "003l;422l",
            "005l;302l", "005l;202l", "005l;312l", "005l;332l", "005l;222l",
            "003l;003l", "003l;002l", "003l;103l", "000l;000l", "000l;010l",
            "003l;300l", "003l;200l", "003l;400l", "009l;909l", "009l;999l"};
        // D and the bounds: 25 of 25; 26; 97; 25 of 25; 20 of 1 to 25; then 9 of 9; 4; 10; 18; 8 of 9.
        int[] want = {1, 0, 0, 1, 2, 3, 4, 2, 2, 4, 5, 4, 2, 5, 0, 1, 4, 0, 2, 2};
        for (int i = 0; i < texts.length; i++) {
            due("12 bound " + texts[i], Made.of(texts[i]).are(0, 0, 1), want[i]);
            due("12 bound, the other first " + texts[i], Made.of(texts[i]).are(0, 1, 0), want[i]);
        }
    }

    /** "by POINTS and SPREADS as they are": behind screws and changes, beyond the places that can be told. */
    private static void twoCouplesAsTheyAre() {
        CompassMarriage x = Made.of("001l;901l", Made.change(2, 0), Made.screw(3, 1, 9), Made.screw(3, 0, 1));
        due("12 as told", x.are(1, 0, 1), 0);
        due("12 changed over to (-1,0)", x.place(2, 0, 0), -1);
        due("12 ten from each other", x.are(2, 0, 1), 0);
        due("12 just ten wide together", x.are(3, 0, 1), 1);
        CompassMarriage far = Made.of("009l;999l", Made.change(2, 0), Made.change(0, 1), Made.screw(3, 0, 9));
        due("12 from (-9,0)", far.place(3, 0, 0), -9);
        due("12 to (18,9)", far.place(3, 1, 0), 18);
        due("12 far from each other", far.are(3, 0, 1), 0);
    }

    // ---- pairs, closed, holes, ringed, meets

    /** "TALKED: pairs that CROSS, both CLOSED": not one that is not, nor such as do not CROSS. */
    private static void talkedBothClosed() {
        due("13 both on 3", Made.of("003l;403l").pairs(3, 0), 1);
        due("13 neither on 2", Made.of("003l;403l").pairs(2, 0), 0);
        CompassMarriage one = Made.of("003l;403s");
        due("13 one alone on 5", one.pairs(5, 0), 0);
        due("13 both on 6", one.pairs(6, 0), 1);
        CompassMarriage other = Made.of("003s;403l");
        due("13 the other alone on 5", other.pairs(5, 0), 0);
        due("13 the other, both on 6", other.pairs(6, 0), 1);
        String[] texts = {"003l;903l", "003l;603l", "003l;403l", "005l;203l", "005l;103l", "003l;003l"};
        int[] talked = {0, 0, 1, 0, 0, 0};
        int[] neighbours = {0, 1, 0, 1, 0, 0};
        for (int i = 0; i < texts.length; i++) {
            due("13 talked of " + texts[i], Made.of(texts[i]).pairs(19, 0), talked[i]);
            due("35 talked of " + texts[i], Made.of(texts[i]).count(3), talked[i]);
            due("13 neighbours " + texts[i], Made.of(texts[i]).pairs(19, 1), neighbours[i]);
            due("35 neighbours " + texts[i], Made.of(texts[i]).count(4), neighbours[i]);
        }
        due("13 screwed, and not closed", Made.of("003l;403l", Made.screw(17, 0, 3)).pairs(19, 0), 0);
        due("13 screwed, and closed", Made.of("003l;403l", Made.screw(16, 0, 3)).pairs(19, 0), 1);
        due("13 one that is left, closed", Made.of("003l;403l", Made.leave(4, 0)).pairs(19, 0), 1);
        due("13 one that is left, not closed", Made.of("003l;403l", Made.leave(3, 0)).pairs(19, 0), 0);
    }

    /** "NEIGHBOURS: pairs that TOUCH (or from WITHIN), both CLOSED." */
    private static void neighboursBothClosed() {
        for (String text : new String[] {"003l;603s", "003s;603l", "005l;203s", "005s;203l"}) {
            due("13 one alone, " + text, Made.of(text).pairs(5, 1), 0);
            due("13 both, " + text, Made.of(text).pairs(6, 1), 1);
        }
        // A point on a ring touches it, but one of spread 0 is never closed.
        due("13 a point on a ring", Made.of("003l;300l").are(19, 0, 1), 1);
        due("13 is no neighbour", Made.of("003l;300l").pairs(19, 1), 0);
    }

    /** None of none, none of one, all 28 of eight. */
    private static void allPairs() {
        CompassMarriage crossing = Made.of(Made.row(8, "9l"));
        due("13 28 are talked of", crossing.pairs(19, 0), 28);
        due("13 none of them a neighbour", crossing.pairs(19, 1), 0);
        due("35 28 are talked of", crossing.count(3), 28);
        CompassMarriage touching = Made.of("001l;102l;203l;304l;405l;506l;607l;708l");
        due("13 28 neighbours", touching.pairs(19, 1), 28);
        due("13 none of them talked of", touching.pairs(19, 0), 0);
        due("35 28 neighbours", touching.count(4), 28);
        CompassMarriage alike = Made.of("552l;552l;552l;552l;552l;552l;552l;552l");
        due("13 alike: not talked of", alike.pairs(19, 0), 0);
        due("13 alike: no neighbours", alike.pairs(19, 1), 0);
        for (int what = 0; what < 2; what++) {
            due("13 of none", new CompassMarriage().pairs(19, what), 0);
            due("13 of one", Made.of("003l").pairs(19, what), 0);
        }
    }

    /** "CLOSED: which are, as bits": none, each alone, all eight. */
    private static void closedAsBits() {
        due("14 of no couples", new CompassMarriage().closed(19), 0);
        due("14 all eight", Made.of(Made.row(8, "1l")).closed(3), 255);
        due("14 none of eight", Made.of(Made.row(8, "1l")).closed(2), 0);
        for (int c = 0; c < 8; c++) {
            CompassMarriage x = Made.of(Made.row(8, "0l"), Made.screw(16, c, 1));
            due("14 none yet", x.closed(18), 0);
            due("14 couple " + c + " alone", x.closed(19), 1 << c);
            due("35 couple " + c + " alone", x.count(5), 1);
        }
        due("35 all eight", Made.of(Made.row(8, "1l")).count(5), 8);
    }

    /** "HOLES: at how many places POINTS were behind any DAY": from the first to the last, each place once. */
    private static void holesBehindAnyDay() {
        due("15 of no couples", new CompassMarriage().holes(), 0);
        due("15 eight in one place", Made.of("551l;552s;553b;550l;559l;558s;557b;556l").holes(), 1);
        due("15 eight places", Made.of(Made.row(8, "1l")).holes(), 8);
        due("15 behind day 0, not ahead of it", Made.of("553l", Made.change(0, 0)).holes(), 1);
        due("15 one more on day 1", Made.of("553l", Made.change(1, 0)).holes(), 2);
        due("15 one more on day 19", Made.of("553l", Made.change(19, 0)).holes(), 2);
        due("15 there and back on one day", Made.of("553l", Made.change(9, 0), Made.change(9, 0)).holes(), 1);
        due("15 the place is the like one again", Made.of("553l", Made.leave(0, 0), Made.change(3, 0), Made.change(5, 0)).holes(), 2);
        due("15 none by spread 0", Made.of("550l", Made.change(9, 0)).holes(), 1);
        CompassMarriage most = Made.of("001l;201l;401l;601l;801l;051l;251l;451l");
        for (int c = 0; c < 8; c++) {
            most.event(1, 1, c, 0);
        }
        due("15 two of each of eight", most.holes(), 16);
        CompassMarriage walk = Made.of("551l");
        for (int day = 2; day <= 16; day += 2) {
            walk.event(1, day, 0, 0);
        }
        // Its way ahead of each change is 2: the one opposite and two quarters more. So it goes by 1 less x each time.
        due("15 a walk of eight changes", walk.holes(), 9);
    }

    /** "RINGED of a COUPLE: the first DAY behind which it is CLOSED; NONE." */
    private static void ringedFirstDay() {
        due("16 a beam", Made.of("001b").ringed(0), 1);
        due("16 a loose one", Made.of("001l").ringed(0), 3);
        due("16 a stiff one", Made.of("001s").ringed(0), 6);
        due("16 on the last day", Made.of("000l", Made.screw(16, 0, 1)).ringed(0), 19);
        due("16 too late", Made.of("000l", Made.screw(17, 0, 1)).ringed(0), NONE);
        due("16 a beam on the last day", Made.of("000b", Made.screw(18, 0, 1)).ringed(0), 19);
        due("16 a beam too late", Made.of("000b", Made.screw(19, 0, 1)).ringed(0), NONE);
        due("16 a stiff one by 18", Made.of("000s", Made.screw(12, 0, 1)).ringed(0), 18);
        due("16 a stiff one too late", Made.of("000s", Made.screw(13, 0, 1)).ringed(0), NONE);
        due("16 the first, though it is screwed", Made.of("001l", Made.screw(4, 0, 2)).ringed(0), 3);
        due("16 not that one", Made.of("001l", Made.screw(3, 0, 2)).ringed(0), 6);
        due("16 left just then", Made.of("001l", Made.leave(4, 0)).ringed(0), 3);
        due("16 left ahead of it", Made.of("001l", Made.leave(3, 0)).ringed(0), NONE);
        due("16 of spread 0", Made.of("000l").ringed(0), NONE);
        Made.range("16 couple", Made::full, (x, c) -> x.ringed(c), 0, 7, BAD);
        Made.refused("16 of no couples", CompassMarriage::new, x -> x.ringed(0), BAD);
    }

    /** "MEETS: the first DAY behind which two LEGS are at one place"; "NONE". */
    private static void meetsFirstDay() {
        due("17 on day 0", Made.of("003l;003l").meets(0), 0);
        CompassMarriage last = Made.of("550l;500l", Made.screw(19, 1, 5));
        due("17 on day 19", last.meets(0), 19);
        last.back();
        due("17 never", last.meets(0), NONE);
        due("17 never, the least", last.meets(1), NONE);
        due("17 never, the other", last.meets(2), NONE);
        due("17 not on a day 20", Made.of("050l;550l", Made.screw(19, 1, 5)).meets(0), NONE);
        // Ahead of day 0 legs are at one place, behind it no more: that is no meeting.
        due("17 not ahead of day 0", Made.of("005l;500l").meets(0), 3);
        due("17 nor at all, if left behind it", Made.of("005l;500l", Made.leave(1, 0)).meets(0), NONE);
        due("17 points at one place are none", Made.of("551l;552l").meets(0), NONE);
        for (int what = 0; what <= 2; what++) {
            due("17 of no couples", new CompassMarriage().meets(what), NONE);
            due("17 of one", Made.of("003l").meets(what), NONE);
        }
    }

    /** "the least such COUPLE; the least other one with it", up to the last two of eight. */
    private static void meetsLeastCouples() {
        dueMeets("the last two", "001l;201l;401l;601l;801l;051l;951l;951l", 0, 6, 7);
        dueMeets("the first two", "001l;001l;401l;401l;801l;801l;951l;951l", 0, 0, 1);
        dueMeets("the first and the last", "001l;201l;401l;601l;801l;051l;951l;001l", 0, 0, 7);
        dueMeets("the least, then its least", "001l;991l;201l;551l;201l;991l;551l;991l", 0, 1, 5);
        // 0 and 3 meet on day 1 at (0,0), 1 and 2 on day 0: the day goes ahead of the couple.
        dueMeets("the day ahead of the couple", "101l;551l;551l;000l", 0, 1, 2);
        dueMeets("a later day", "101l;551l;561l;000l", 1, 0, 3);
    }

    private static void dueMeets(String label, String text, int day, int one, int other) {
        CompassMarriage x = Made.of(text);
        due("17 " + label + ": day", x.meets(0), day);
        due("17 " + label + ": the least", x.meets(1), one);
        due("17 " + label + ": the other", x.meets(2), other);
    }

    // ---- refusals

    /** Promises 10 to 17: "BAD", on both sides of each number; of place() the least int. */
    private static void refusalsOfDays() {
        Made.range("10 day", Made::full, (x, day) -> x.at(day, 7, 0), 0, 19, BAD);
        Made.range("10 couple", Made::full, (x, c) -> x.at(19, c, 0), 0, 7, BAD);
        Made.range("10 couple of two", Made::some, (x, c) -> x.at(19, c, 0), 0, 1, BAD);
        Made.range("10 what", Made::full, (x, what) -> x.at(0, 0, what), 0, 4, BAD);
        Made.refused("10 of no couples", CompassMarriage::new, x -> x.at(0, 0, 0), BAD);
        Made.range("11 day", Made::full, (x, day) -> x.place(day, 7, 0), 0, 19, LEAST);
        Made.range("11 couple", Made::full, (x, c) -> x.place(19, c, 0), 0, 7, LEAST);
        Made.range("11 couple of two", Made::some, (x, c) -> x.place(19, c, 0), 0, 1, LEAST);
        Made.range("11 what", Made::full, (x, what) -> x.place(0, 0, what), 0, 3, LEAST);
        Made.refused("11 of no couples", CompassMarriage::new, x -> x.place(0, 0, 0), LEAST);
        Made.range("12 day", Made::full, (x, day) -> x.are(day, 0, 7), 0, 19, BAD);
        Made.range("12 one", Made::full, (x, c) -> x.are(0, c, c == 7 ? 0 : 7), 0, 7, BAD);
        Made.range("12 other", Made::full, (x, c) -> x.are(0, c == 0 ? 7 : 0, c), 0, 7, BAD);
        Made.range("12 one of two", Made::some, (x, c) -> x.are(0, c, c == 1 ? 0 : 1), 0, 1, BAD);
        Made.range("12 other of two", Made::some, (x, c) -> x.are(0, c == 0 ? 1 : 0, c), 0, 1, BAD);
        for (int c = 0; c < 8; c++) {
            int same = c;
            Made.refused("12 one and the same: " + c, Made::full, x -> x.are(0, same, same), BAD);
        }
        Made.range("13 day", Made::full, (x, day) -> x.pairs(day, 0), 0, 19, BAD);
        Made.range("13 day, neighbours", Made::full, (x, day) -> x.pairs(day, 1), 0, 19, BAD);
        Made.range("13 what", Made::full, (x, what) -> x.pairs(19, what), 0, 1, BAD);
        Made.range("14 day", Made::full, (x, day) -> x.closed(day), 0, 19, BAD);
        Made.range("14 day of no couples", CompassMarriage::new, (x, day) -> x.closed(day), 0, 19, BAD);
        Made.range("17 what", Made::full, (x, what) -> x.meets(what), 0, 2, BAD);
        Made.range("17 what, where none meet", () -> Made.of("003l"), (x, what) -> x.meets(what), 0, 2, BAD);
    }
}
