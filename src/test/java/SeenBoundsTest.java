import java.math.BigInteger;

/** What was SEEN, GOSSIP and AGES, promises 22 to 28, at their bounds: a method for each sentence. */
public final class SeenBoundsTest {
    private static final int BAD = Made.BAD, FULL = Made.FULL;

    public static void main(String[] args) {
        eightSeenAtMost();
        seenOfNumbers();
        seenBadAheadOfFull();
        forgetTellsHowMany();
        seenOfACoupleThatThereIsNot();
        seenAtTheFarthestPlaces();
        neverAsBits();
        neverEachAlone();
        wideIs0To9();
        wideOfLikeLegs();
        sortIs0To2();
        wasInPlaceOfItsOwn();
        wasRefuses();
        askTheFirstOfLikeDays();
        askUpToTheLastDay();
        askByThoseSpreadsAlone();
        askRefuses();
        gossipByNoneAndBySixteen();
        gossipInLowestTerms();
        gossipOfEachByItself();
        gossipOfEight();
        gossipBehindADay();
        gossipWithoutCouplesOrEvents();
        gossipRefuses();
        agesByLots();
        agesOfNone();
        agesSeedsThatWrap();
        agesInPlaceOfThoseTold();
        agesRefuses();
        Check.end();
    }

    private static void due(String call, long got, long want) {
        Check.due(call, got, want);
    }

    // ---- seen

    /** "SEEN, 8 at most": the eighth is taken, the ninth is not. */
    private static void eightSeenAtMost() {
        CompassMarriage x = new CompassMarriage();
        for (int n = 1; n <= 8; n++) {
            due("22 seen " + n, x.seen(0, 0, 0, 0), n);
            due("35 seen " + n, x.count(7), n);
        }
        due("22 the ninth", x.seen(0, 0, 0, 0), FULL);
        due("22 eight still", x.count(7), 8);
        due("22 forgotten", x.forget(), 8);
        due("22 room again", x.seen(0, 0, 0, 0), 1);
        Made.refused("22 full", Made::full, y -> y.seen(0, 0, 0, 3), FULL);
        CompassMarriage last = Made.of("003l");
        for (int n = 1; n <= 7; n++) {
            last.seen(0, 0, 0, 3);
        }
        due("22 seven come out so", last.was(0, 0), 8);
        last.seen(0, 0, 0, 4);
        due("22 the eighth does not", last.was(0, 0), 0);
    }

    /** "behind a DAY the LEG of a COUPLE (0 to 7 ..) was at a place (x, y -99 to 99)". */
    private static void seenOfNumbers() {
        Made.range("22 day", Made::some, (x, day) -> x.seen(day, 0, 0, 0), 0, 19, BAD);
        Made.range("22 couple", Made::some, (x, c) -> x.seen(0, c, 0, 0), 0, 7, BAD);
        Made.range("22 couple of none", CompassMarriage::new, (x, c) -> x.seen(0, c, 0, 0), 0, 7, BAD);
        Made.range("22 x", Made::some, (x, v) -> x.seen(0, 0, v, 0), -99, 99, BAD);
        Made.range("22 y", Made::some, (x, v) -> x.seen(0, 0, 0, v), -99, 99, BAD);
    }

    /** Promise 22: "BAD; FULL." */
    private static void seenBadAheadOfFull() {
        int[][] wrong = {{-1, 0, 0, 0}, {20, 0, 0, 0}, {0, -1, 0, 0}, {0, 8, 0, 0}, {0, 0, -100, 0}, {0, 0, 100, 0},
            {0, 0, 0, -100}, {0, 0, 0, 100}, {20, 8, 100, 100}};
        for (int[] s : wrong) {
            String label = "22 both: " + s[0] + " " + s[1] + " " + s[2] + " " + s[3];
            Made.refused(label, Made::full, x -> x.seen(s[0], s[1], s[2], s[3]), BAD);
        }
    }

    /** Promise 23: "All SEEN are forgotten: how many", none, each number, all eight. */
    private static void forgetTellsHowMany() {
        for (int n = 0; n <= 8; n++) {
            CompassMarriage x = Made.of("003l");
            for (int i = 0; i < n; i++) {
                x.seen(0, 0, 50, 50);
            }
            due("23 of " + n + ", ahead", x.was(0, 0), n == 0 ? 1023 : 0);
            due("23 of " + n, x.forget(), n);
            due("23 none then", x.forget(), 0);
            due("23 none counted", x.count(7), 0);
            due("23 all fit again", x.was(0, 0), 1023);
        }
    }

    /** "one that there is not: never": nothing comes out so, until it is there. */
    private static void seenOfACoupleThatThereIsNot() {
        CompassMarriage x = Made.of("003l", Made.leave(9, 0));
        x.seen(0, 1, 5, 7);
        due("24 never so", x.never(), 0);
        due("25 wide: never so", x.was(0, 0), 0);
        due("25 sort: never so", x.was(0, 1), 0);
        due("26 no spread to ask for", x.ask(0), 0);
        for (char sign : ";552l".toCharArray()) {
            x.type(sign);
        }
        due("24 so, once it is there", x.never(), 1);
        due("25 so, once it is there", x.was(0, 0), 1023);
        due("25 its own, once it is there", x.was(1, 0), 4);
        x.type(';');
        due("24 with a fault", x.never(), 0);
        CompassMarriage eighth = Made.of(Made.EIGHT.substring(0, 34));
        eighth.seen(0, 7, 0, 0);
        due("25 the eighth of seven", eighth.was(0, 0), 0);
        CompassMarriage none = new CompassMarriage();
        none.event(0, 0, 0, 0);
        due("24 of no couples, nothing seen", none.never(), 1);
        none.seen(0, 0, 0, 0);
        due("24 of no couples", none.never(), 0);
    }

    /** Places of LEGS below 0 and above 9 come out, as far as legs go. */
    private static void seenAtTheFarthestPlaces() {
        CompassMarriage x = Made.of("009l;999l", Made.screw(19, 0, 1));
        x.seen(1, 0, -9, 0);
        x.seen(2, 0, 0, -9);
        x.seen(0, 1, 9, 18);
        x.seen(3, 1, 18, 9);
        due("22 all four come out so", x.never(), 1);
        CompassMarriage far = Made.of("009l", Made.screw(19, 0, 1));
        far.seen(0, 0, 99, 99);
        due("22 none at (99,99)", far.never() + far.was(0, 0), 0);
        // Stiff, changed over on odd days when it goes not round, by 9 more x and 9 more y by turns.
        CompassMarriage walk = Made.of("999s", Made.change(1, 0), Made.change(3, 0));
        due("22 as far as it goes", walk.place(3, 0, 1), 18);
        walk.seen(3, 0, walk.place(3, 0, 2), walk.place(3, 0, 3));
        due("22 it comes out so", walk.was(0, 0) >> 9 & 1, 1);
    }

    /** "NEVER .. as bits": of no EVENTS 0, of eight 255 or each alone. */
    private static void neverAsBits() {
        due("24 no events", Made.of("003l").never(), 0);
        CompassMarriage eight = Made.full();
        eight.forget();
        due("24 eight, nothing seen", eight.never(), 255);
        for (int one = 0; one < 8; one++) {
            CompassMarriage x = Made.of("003l");
            for (int k = 0; k < 8; k++) {
                Made.tell(x, k == one ? Made.screw(9, 0, 7) : Made.screw(0, 0, 3));
            }
            // On day 9 it is at way 2: 7 wide by that event, 3 wide without it.
            x.seen(9, 0, -3, 0);
            due("24 event " + one + " never was", x.never(), 1 << one);
            x.forget();
            x.seen(9, 0, -7, 0);
            due("24 any but event " + one, x.never(), 255 - (1 << one));
        }
    }

    /** "EVENTS each of which, had it alone not been": not two of them at once, and all SEEN at once. */
    private static void neverEachAlone() {
        CompassMarriage x = Made.of("003l", Made.screw(0, 0, 5), Made.screw(0, 0, 5));
        x.seen(0, 0, 0, 3);
        due("24 it would take both", x.never(), 0);
        x.forget();
        x.seen(0, 0, 0, 5);
        due("24 one is enough", x.never(), 3);
        CompassMarriage y = Made.of("003l;993l", Made.screw(0, 0, 5), Made.screw(0, 1, 5));
        y.seen(0, 0, 0, 3);
        due("24 the first", y.never(), 1);
        y.seen(0, 1, 9, 12);
        due("24 each for one that was seen, none for both", y.never(), 0);
        CompassMarriage asTold = Made.of("003l", Made.screw(0, 0, 5));
        asTold.seen(0, 0, 0, 5);
        due("24 all comes out as told, and not without it", asTold.never(), 0);
    }

    // ---- was, ask

    /** "SPREADS (0 to 9) .. as bits": each alone, none beyond 9, all. */
    private static void wideIs0To9() {
        due("25 all", Made.of("003l").was(0, 0), 1023);
        for (int spread = 0; spread <= 11; spread++) {
            CompassMarriage x = Made.of("003l");
            x.seen(0, 0, 0, spread);
            due("25 " + spread + " wide", x.was(0, 0), spread <= 9 ? 1 << spread : 0);
        }
        CompassMarriage below = Made.of("003l");
        below.seen(0, 0, 0, -1);
        due("25 not below 0", below.was(0, 0), 0);
        CompassMarriage last = Made.of(Made.EIGHT);
        last.seen(0, 7, 8, 15);
        due("25 of the eighth", last.was(7, 0), 1 << 9);
    }

    /** Where legs are alike by several SPREADS, all of them; 0 goes not round, and may be elsewhere. */
    private static void wideOfLikeLegs() {
        CompassMarriage x = Made.of("003l", Made.screw(1, 0, 4));
        x.seen(1, 0, -4, 0);
        due("25 1 to 9 have gone a quarter more", x.was(0, 0), 1022);
        x.forget();
        x.seen(1, 0, 0, 4);
        due("25 0 has not", x.was(0, 0), 1);
        CompassMarriage y = Made.of("003l", Made.screw(4, 0, 4));
        y.seen(4, 0, 0, 4);
        due("25 all ten", y.was(0, 0), 1023);
    }

    /** "SORT of a COUPLE: 0 s, 1 l, 2 b .. as bits": each alone, several, none. */
    private static void sortIs0To2() {
        int[][] seen = {{1, 5, 9}, {1, 2, 6}, {1, 8, 6}, {0, 5, 9}, {0, 2, 6}, {2, 2, 6}, {3, 8, 6}, {0, 5, 3}};
        // Behind day 1 ways are 1, 2, 0; behind day 0 they are 1, 1, 2; behind day 2: 2, 3, 2; behind day 3: 2, 0, 0.
        int[] want = {1, 2, 4, 3, 4, 5, 6, 0};
        for (char sort : "slb".toCharArray()) {
            for (int i = 0; i < seen.length; i++) {
                CompassMarriage x = Made.of("563" + sort);
                due("25 sorts, nothing seen", x.was(0, 1), 7);
                x.seen(seen[i][0], 0, seen[i][1], seen[i][2]);
                due("25 sorts by sighting " + i, x.was(0, 1), want[i]);
            }
        }
    }

    /** "as told, in place of its own": that of the others stays, and so does its own behind it. */
    private static void wasInPlaceOfItsOwn() {
        CompassMarriage x = Made.of("003l;553s");
        x.seen(0, 0, 0, 4);
        due("25 that of 0", x.was(0, 0), 1 << 4);
        due("25 not that of 1", x.was(1, 0), 0);
        due("25 nor its sort", x.was(1, 1), 0);
        long before = x.digest();
        x.was(0, 0);
        x.was(0, 1);
        x.ask(0);
        due("25 all stays", x.digest(), before);
        due("25 its spread stays", x.couple(0, 2), 3);
        due("25 its sort stays", x.couple(0, 3), 1);
    }

    /** Promise 25: "BAD". */
    private static void wasRefuses() {
        Made.range("25 couple", Made::full, (x, c) -> x.was(c, 0), 0, 7, BAD);
        Made.range("25 couple, sorts", Made::full, (x, c) -> x.was(c, 1), 0, 7, BAD);
        Made.range("25 couple of two", Made::some, (x, c) -> x.was(c, 0), 0, 1, BAD);
        Made.range("25 what", Made::full, (x, what) -> x.was(7, what), 0, 1, BAD);
        Made.refused("25 of no couples", CompassMarriage::new, x -> x.was(0, 0), BAD);
    }

    /** "of like ones the least": day 0, where all days are alike or no SPREAD is left. */
    private static void askTheFirstOfLikeDays() {
        due("26 each another on any day", Made.of("003l").ask(0), 0);
        due("26 all alike on any day", Made.of("003l", Made.screw(0, 0, 3)).ask(0), 0);
        CompassMarriage none = Made.of("003l");
        none.seen(0, 0, 50, 50);
        due("26 none left", none.ask(0), 0);
        due("26 day 0 by one, later by nine", Made.of("003l", Made.screw(1, 0, 3)).ask(0), 0);
    }

    /** Changed over and left on day 0, its LEG is where its POINT was told, until it is changed over once more. */
    private static CompassMarriage hidden(int day) {
        return Made.of("003l", Made.change(0, 0), Made.leave(0, 0), Made.change(day, 0));
    }

    /** "the DAY behind which the greatest number .. is least": each of them, up to the last. */
    private static void askUpToTheLastDay() {
        for (int day = 0; day < 20; day++) {
            due("26 told apart from " + day + " on", hidden(day).ask(0), day);
        }
        CompassMarriage back = hidden(7);
        back.event(1, 9, 0, 0);
        due("26 on days 7 and 8 alone", back.ask(0), 7);
        CompassMarriage last = Made.of(Made.EIGHT, Made.change(0, 7), Made.leave(0, 7), Made.change(19, 7));
        due("26 of the eighth", last.ask(7), 19);
        Made.tell(last, Made.change(1, 0), Made.change(1, 1), Made.change(1, 2), Made.change(1, 4), Made.change(1, 5));
        due("26 holes looked at ahead of it", last.holes(), 14);
        due("26 make no difference", last.ask(7), 19);
    }

    /** "of those SPREADS": of one or none no DAY is better than another; of two that are told apart one is. */
    private static void askByThoseSpreadsAlone() {
        CompassMarriage one = hidden(9);
        one.seen(9, 0, 3, 0);
        due("26 one is left", one.was(0, 0), 8);
        due("26 as good on any day", one.ask(0), 0);
        CompassMarriage others = hidden(9);
        others.seen(0, 0, 0, 0);
        due("26 all ten are left", others.was(0, 0), 1023);
        due("26 day 9", others.ask(0), 9);
        // Screwed to 4 on day 1, 1 to 9 are at one place from then on, and 0 is elsewhere.
        CompassMarriage nine = Made.of("003l", Made.screw(1, 0, 4));
        nine.seen(1, 0, -4, 0);
        due("26 nine are left", nine.was(0, 0), 1022);
        due("26 told apart on day 0 alone", nine.ask(0), 0);
    }

    /** Promise 26: "BAD". */
    private static void askRefuses() {
        Made.range("26 couple", Made::full, (x, c) -> x.ask(c), 0, 7, BAD);
        Made.range("26 couple of two", Made::some, (x, c) -> x.ask(c), 0, 1, BAD);
        Made.refused("26 of no couples", CompassMarriage::new, x -> x.ask(0), BAD);
    }

    // ---- gossip

    private static void dueGossip(String label, CompassMarriage x, int c, int day, long above, long below) {
        due("27 " + label + ": above", x.gossip(c, day, 0), above);
        due("27 " + label + ": below", x.gossip(c, day, 1), below);
    }

    /** They touch as told; either screw alone makes them cross. */
    private static CompassMarriage screws(int n) {
        CompassMarriage x = Made.of("003l;401l");
        for (int k = 0; k < n; k++) {
            x.event(0, k, 1, 3);
        }
        return x;
    }

    /** "c sixteenths (0 to 16)": by 0 none of EVENTS is, by 16 all are. */
    private static void gossipByNoneAndBySixteen() {
        dueGossip("by 0", screws(3), 0, 19, 0, 1);
        dueGossip("by 16", screws(3), 16, 19, 1, 1);
        CompassMarriage hushed = Made.of("003l;403l", Made.screw(0, 1, 1));
        dueGossip("hushed, by 0", hushed, 0, 19, 1, 1);
        dueGossip("hushed, by 16", hushed, 16, 19, 0, 1);
        dueGossip("hushed, by 1", hushed, 1, 19, 15, 16);
        dueGossip("hushed, by 15", hushed, 15, 19, 1, 16);
    }

    /** "FRACTIONS are told in lowest terms, above and below (0 by 1)": one event, by each c. */
    private static void gossipInLowestTerms() {
        int[] above = {0, 1, 1, 3, 1, 5, 3, 7, 1, 9, 5, 11, 3, 13, 7, 15, 1};
        int[] below = {1, 16, 8, 16, 4, 16, 8, 16, 2, 16, 8, 16, 4, 16, 8, 16, 1};
        for (int c = 0; c <= 16; c++) {
            dueGossip("one event by " + c, screws(1), c, 19, above[c], below[c]);
        }
        // By halves: 1 less one half, one quarter, ..
        for (int n = 1; n <= 8; n++) {
            dueGossip(n + " events by halves", screws(n), 8, 19, (1 << n) - 1, 1 << n);
        }
    }

    /** "by itself": two that it takes both, and such as have nothing to do with it. */
    private static void gossipOfEachByItself() {
        CompassMarriage both = Made.of("001l;401l", Made.screw(0, 0, 3), Made.screw(0, 1, 3));
        dueGossip("both by 3", both, 3, 19, 9, 256);
        dueGossip("both by 4", both, 4, 19, 1, 16);
        dueGossip("either by 3", screws(2), 3, 19, 256 - 169, 256);
        CompassMarriage idle = Made.of("003l;401l", Made.screw(0, 1, 3), Made.leave(19, 0), Made.screw(0, 7, 9));
        dueGossip("with idle ones, by 3", idle, 3, 19, 3, 16);
        // Left on day 0 the first couple is never closed: the second event and not the first.
        CompassMarriage hushed = Made.of("003l;401l", Made.leave(0, 0), Made.screw(0, 1, 3));
        dueGossip("the other and not the one, by 3", hushed, 3, 19, 3 * 13, 256);
        // The later of the two undoes the first: the first and not the second.
        CompassMarriage undone = Made.of("003l;401l", Made.screw(0, 1, 3), Made.screw(1, 1, 1));
        dueGossip("one and not the other, by 3", undone, 3, 19, 3 * 13, 256);
    }

    /** Eight EVENTS: beyond what an int holds. */
    private static void gossipOfEight() {
        for (int c = 1; c <= 15; c++) {
            BigInteger all = BigInteger.valueOf(16).pow(8);
            BigInteger some = all.subtract(BigInteger.valueOf(16 - c).pow(8));
            BigInteger common = all.gcd(some);
            dueGossip("eight by " + c, screws(8), c, 19, some.divide(common).longValueExact(), all.divide(common).longValueExact());
        }
        due("27 below of eight", screws(8).gossip(1, 19, 1), 4294967296L);
    }

    /** "TALKED of behind a DAY": by those closed then. */
    private static void gossipBehindADay() {
        CompassMarriage x = screws(1);
        dueGossip("on day 0", x, 8, 0, 0, 1);
        dueGossip("on day 2", x, 8, 2, 0, 1);
        dueGossip("on day 3", x, 8, 3, 1, 2);
        CompassMarriage last = Made.of("003l;401l", Made.screw(16, 1, 3));
        dueGossip("on day 18", last, 8, 18, 0, 1);
        dueGossip("on day 19", last, 8, 19, 1, 2);
        long before = last.digest();
        last.gossip(8, 19, 0);
        due("27 all stays", last.digest(), before);
    }

    /** Without COUPLES, without EVENTS, with a FAULT. */
    private static void gossipWithoutCouplesOrEvents() {
        dueGossip("no couples", new CompassMarriage(), 8, 19, 0, 1);
        dueGossip("one couple", Made.of("003l", Made.screw(0, 0, 1)), 8, 19, 0, 1);
        dueGossip("no events, talked of", Made.of("003l;403l"), 8, 19, 1, 1);
        dueGossip("no events, not talked of", Made.of("003l;903l"), 8, 19, 0, 1);
        CompassMarriage fault = screws(8);
        fault.type(';');
        dueGossip("with a fault", fault, 8, 19, 0, 1);
    }

    /** Promise 27: "BAD", which is the least long and 2 more. */
    private static void gossipRefuses() {
        due("27 the least long and 2 more", Made.full().gossip(-1, 0, 0), -9223372036854775806L);
        Made.range("27 c", Made::full, (x, c) -> x.gossip(c, 19, 0), 0, 16, Made.LONG_BAD);
        Made.range("27 c, below", Made::full, (x, c) -> x.gossip(c, 19, 1), 0, 16, Made.LONG_BAD);
        Made.range("27 day", Made::full, (x, day) -> x.gossip(8, day, 0), 0, 19, Made.LONG_BAD);
        Made.range("27 what", Made::full, (x, what) -> x.gossip(8, 19, what), 0, 1, Made.LONG_BAD);
        Made.range("27 c of no couples", CompassMarriage::new, (x, c) -> x.gossip(c, 19, 0), 0, 16, Made.LONG_BAD);
    }

    // ---- ages

    private static final BigInteger TWO_TO_32 = BigInteger.ONE.shiftLeft(32);

    /** The events of AGES, told one by one to another object. */
    private static CompassMarriage aged(String text, int couples, int seed, int n) {
        CompassMarriage x = Made.of(text);
        BigInteger lot = BigInteger.valueOf(seed).mod(TWO_TO_32);
        int[] most = {3, 20, couples, 10};
        for (int k = 0; k < n; k++) {
            int[] event = new int[4];
            for (int i = 0; i < 4; i++) {
                lot = lot.multiply(BigInteger.valueOf(1103515245)).add(BigInteger.valueOf(12345)).mod(TWO_TO_32);
                event[i] = lot.shiftRight(16).intValueExact() % most[i];
            }
            x.event(event[0], event[1], event[2], event[3]);
        }
        return x;
    }

    /** "of each a LOT of 3 (its kind), a LOT of 20 (its DAY), a LOT of COUPLES, a LOT of 10 (its number)". */
    private static void agesByLots() {
        String text = "009l;109b;209s;309l;409b;509s;609l;709b";
        for (int couples = 1; couples <= 8; couples++) {
            String some = text.substring(0, 5 * couples - 1);
            for (int n = 0; n <= 8; n++) {
                for (int seed = -60; seed < 60; seed++) {
                    dueAges(some, couples, seed, n);
                }
            }
        }
    }

    private static void dueAges(String text, int couples, int seed, int n) {
        CompassMarriage due = aged(text, couples, seed, n);
        CompassMarriage x = Made.of(text);
        String label = "28 " + couples + " couples, seed " + seed + ", n " + n;
        due(label + ": pairs", x.ages(seed, n, 0), due.pairs(19, 0));
        due(label + ": closed", x.ages(seed, n, 1), Integer.bitCount(due.closed(19)));
    }

    /** "n EVENTS (0 to 8) .. (none where there are no COUPLES)". */
    private static void agesOfNone() {
        for (int what = 0; what < 2; what++) {
            due("28 no couples, n 0", new CompassMarriage().ages(1, 0, what), 0);
            due("28 no couples, n 8", new CompassMarriage().ages(1, 8, what), 0);
            due("28 with a fault", Made.of("003l;403l;").ages(1, 8, what), 0);
        }
        due("28 n 0: pairs", Made.of(Made.row(8, "9l")).ages(1, 0, 0), 28);
        due("28 n 0: closed", Made.of(Made.row(8, "9l")).ages(1, 0, 1), 8);
        due("28 one couple: pairs", Made.of("003l").ages(1, 8, 0), 0);
    }

    /** "as ints that wrap; its upper 16 bits as a number from 0 on". */
    private static void agesSeedsThatWrap() {
        int[] seeds = {0, -1, 1, Made.LEAST, Made.MOST, Made.LEAST + 1, Made.MOST - 1, 65535, 65536, -65536, 0x7FFF0000};
        for (int seed : seeds) {
            for (int n = 0; n <= 8; n++) {
                dueAges("009l;109b;209s;309l;409b;509s;609l", 7, seed, n);
            }
        }
        // SEED 0: by upper 16 bits 0, 54236, 42756, 54885 a screw on day 16, so that a stiff one has 2 arcs behind day 19.
        due("28 a screw on day 16", Made.of("001s").ages(0, 1, 1), 0);
        // SEED 1: by 16838, 38526, 10113, 50283 one is left on day 6, a stiff one with 3 arcs, a loose one with 4.
        due("28 a stiff one left on day 6", Made.of("001s").ages(1, 1, 1), 0);
        due("28 a loose one left on day 6", Made.of("001l").ages(1, 1, 1), 1);
        // SEED 2: by 33676, 22817, 43007, 45682 a change on day 17, so that a loose one has 3 arcs behind day 19.
        due("28 a change on day 17", Made.of("001l").ages(2, 1, 1), 0);
        due("28 a beam has 4", Made.of("001b").ages(2, 1, 1), 1);
        // SEED 7, seven couples: the first event is a screw of couple 4 on day 6, the sixth leaves it on day 7.
        CompassMarriage seven = Made.of("003l;900l;900l;900l;403l;900l;900l");
        for (int n = 1; n <= 8; n++) {
            due("28 pairs of seven, n " + n, seven.ages(7, n, 0), n < 6 ? 1 : 0);
            due("28 closed of seven, n " + n, seven.ages(7, n, 1), n < 6 ? 2 : 1);
        }
    }

    /** "in place of those told", which stay as they are. */
    private static void agesInPlaceOfThoseTold() {
        CompassMarriage told = Made.of("009l;109b;209s", Made.leave(0, 0), Made.leave(0, 1), Made.leave(0, 2));
        CompassMarriage none = Made.of("009l;109b;209s");
        for (int n = 0; n <= 8; n++) {
            due("28 pairs, n " + n, told.ages(5, n, 0), none.ages(5, n, 0));
            due("28 closed, n " + n, told.ages(5, n, 1), none.ages(5, n, 1));
        }
        due("28 three are told still", told.count(2), 3);
        due("28 and done", told.closed(19), 0);
        CompassMarriage full = Made.full();
        long before = full.digest();
        full.ages(5, 8, 0);
        due("28 all stays", full.digest(), before);
    }

    /** Promise 28: "BAD"; any int is a SEED. */
    private static void agesRefuses() {
        Made.range("28 n", Made::full, (x, n) -> x.ages(1, n, 0), 0, 8, BAD);
        Made.range("28 n, closed", Made::full, (x, n) -> x.ages(1, n, 1), 0, 8, BAD);
        Made.range("28 what", Made::full, (x, what) -> x.ages(1, 8, what), 0, 1, BAD);
        Made.range("28 n of no couples", CompassMarriage::new, (x, n) -> x.ages(1, n, 0), 0, 8, BAD);
        Made.range("28 what of no couples", CompassMarriage::new, (x, what) -> x.ages(1, 8, what), 0, 1, BAD);
        for (int seed : new int[] {Made.LEAST, -1, 0, Made.MOST}) {
            Check.isTrue("28 seed " + seed, Made.full().ages(seed, 8, 1) >= 0);
        }
    }
}
