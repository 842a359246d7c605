/** The promises of the document one by one: ordinary inputs, the edges that it names, and wrong inputs. */
public final class PromisesTest {
    private static final int MIN = Integer.MIN_VALUE;
    private static final int MAX = Integer.MAX_VALUE;
    private static final int NONE = TourDesk.NONE;

    // Pairs that are no link of a desk with five cities.
    private static final int[][] NO_LINKS = {
        {0, 0}, {4, 4}, {-1, 0}, {0, -1}, {5, 0}, {0, 5}, {-1, -1}, {5, 5}, {6, 3}, {3, 6}, {7, 1}, {1, 7},
        {MIN, 2}, {2, MIN}, {MAX, 2}, {2, MAX}, {MIN, MAX}, {-7, 8}, {8, -7}, {0, 8}, {8, 0},
    };

    private static int wrong = 0;

    private static void due(String call, int got, int want) {
        if (got != want) {
            wrong++;
            System.out.println(call + " answered " + got + ", due is " + want);
        }
    }

    private static void due(String call, boolean got, boolean want) {
        due(call, got ? 1 : 0, want ? 1 : 0);
    }

    private static void must(boolean done) {
        due("a change that the test needs", done, true);
    }

    /** Every link of the desk has this length and this rule. */
    private static void dueAll(String when, TourDesk desk, int cities, int length, int rule) {
        for (int a = 0; a < cities; a++) {
            for (int b = 0; b < cities; b++) {
                due(when + ": length(" + a + ", " + b + ")", desk.length(a, b), a == b ? NONE : length);
                due(when + ": rule(" + a + ", " + b + ")", desk.rule(a, b), a == b ? NONE : rule);
            }
        }
    }

    private static void dueTour(String when, TourDesk desk, int... cities) {
        for (int k = 0; k < cities.length; k++) {
            due(when + ": cityAt(" + k + ")", desk.cityAt(k), cities[k]);
        }
        due(when + ": cityAt behind the last", desk.cityAt(cities.length), NONE);
    }

    /** Five cities on a ring of short links, 0 1 2 3 4, with the lengths 1 to 5; every other link is 50 long. */
    private static TourDesk ring() {
        TourDesk desk = new TourDesk(5, 50);
        for (int a = 0; a < 5; a++) {
            must(desk.setLength(a, (a + 1) % 5, a + 1));
        }
        return desk;
    }

    /** Four cities with three different tours: 10 (0 1 2 3), 24 (0 1 3 2) and 30 (0 2 1 3). */
    private static TourDesk square() {
        TourDesk desk = new TourDesk(4, 0);
        must(desk.setLength(0, 1, 1));
        must(desk.setLength(1, 2, 4));
        must(desk.setLength(2, 3, 1));
        must(desk.setLength(3, 0, 4));
        must(desk.setLength(0, 2, 11));
        must(desk.setLength(1, 3, 11));
        return desk;
    }

    private static void constants() {
        due("FREE", TourDesk.FREE, 0);
        due("REQUIRED", TourDesk.REQUIRED, 1);
        due("BARRED", TourDesk.BARRED, 2);
        due("NONE", TourDesk.NONE, -1);
    }

    private static void promise1NewObject() {
        int[][] cities = {{3, 3}, {4, 4}, {5, 5}, {6, 6}, {7, 7}, {2, 3}, {0, 3}, {-1, 3}, {MIN, 3}, {8, 7}, {MAX, 7}};
        int[][] lengths = {{0, 0}, {1, 1}, {42, 42}, {99, 99}, {-1, 0}, {MIN, 0}, {100, 99}, {MAX, 99}};
        for (int[] c : cities) {
            for (int[] d : lengths) {
                String made = "new TourDesk(" + c[0] + ", " + d[0] + ")";
                TourDesk desk = new TourDesk(c[0], d[0]);
                dueAll(made, desk, c[1], d[1], TourDesk.FREE);
                due(made + ": length to the city behind the last", desk.length(0, c[1]), NONE);
                due(made + ": best()", desk.best(), c[1] * d[1]);
                due(made + ": cityAt(last)", desk.cityAt(c[1] - 1), c[1] - 1);
                due(made + ": cityAt(last + 1)", desk.cityAt(c[1]), NONE);
            }
        }
        TourDesk one = new TourDesk(4, 5);
        TourDesk other = new TourDesk(4, 5);
        must(one.setLength(0, 1, 9));
        must(one.setRule(0, 1, TourDesk.BARRED));
        dueAll("a desk beside a changed one", other, 4, 5, TourDesk.FREE);
    }

    private static void promise2SetLength() {
        TourDesk desk = new TourDesk(7, 50);
        for (int a = 0; a < 7; a++) {
            for (int b = a + 1; b < 7; b++) {
                // Every second link is set from its higher end.
                boolean turned = (a + b) % 2 == 0;
                due("setLength", desk.setLength(turned ? b : a, turned ? a : b, 10 * a + b), true);
            }
        }
        for (int a = 0; a < 7; a++) {
            for (int b = a + 1; b < 7; b++) {
                due("length(" + a + ", " + b + ")", desk.length(a, b), 10 * a + b);
                due("length(" + b + ", " + a + ")", desk.length(b, a), 10 * a + b);
                due("rule(" + a + ", " + b + ") after setLength", desk.rule(a, b), TourDesk.FREE);
            }
        }
        due("setLength(0, 1, 0)", desk.setLength(0, 1, 0), true);
        due("length(0, 1)", desk.length(0, 1), 0);
        due("setLength(0, 1, 99)", desk.setLength(0, 1, 99), true);
        due("length(0, 1)", desk.length(0, 1), 99);

        TourDesk five = new TourDesk(5, 20);
        for (int[] p : NO_LINKS) {
            due("setLength(" + p[0] + ", " + p[1] + ", 7)", five.setLength(p[0], p[1], 7), false);
        }
        for (int d : new int[] {-1, 100, -100, MIN, MAX, 256, 65536}) {
            due("setLength(1, 2, " + d + ")", five.setLength(1, 2, d), false);
        }
        dueAll("after refused setLength", five, 5, 20, TourDesk.FREE);
        due("best() after refused setLength", five.best(), 100);
    }

    private static void promise3SetRule() {
        TourDesk desk = new TourDesk(7, 50);
        for (int a = 0; a < 7; a++) {
            for (int b = a + 1; b < 7; b++) {
                boolean turned = (a + b) % 2 == 0;
                due("setRule", desk.setRule(turned ? b : a, turned ? a : b, (a + 2 * b) % 3), true);
            }
        }
        for (int a = 0; a < 7; a++) {
            for (int b = a + 1; b < 7; b++) {
                due("rule(" + a + ", " + b + ")", desk.rule(a, b), (a + 2 * b) % 3);
                due("rule(" + b + ", " + a + ")", desk.rule(b, a), (a + 2 * b) % 3);
                due("length(" + a + ", " + b + ") after setRule", desk.length(a, b), 50);
            }
        }
        for (int from = 0; from <= 2; from++) {
            for (int to = 0; to <= 2; to++) {
                must(desk.setRule(5, 6, from));
                due("setRule from " + from + " to " + to, desk.setRule(6, 5, to), true);
                due("rule from " + from + " to " + to, desk.rule(5, 6), to);
            }
        }

        TourDesk five = new TourDesk(5, 20);
        for (int[] p : NO_LINKS) {
            due("setRule(" + p[0] + ", " + p[1] + ", 2)", five.setRule(p[0], p[1], TourDesk.BARRED), false);
        }
        for (int rule : new int[] {-1, 3, 4, MIN, MAX, 256}) {
            due("setRule(1, 2, " + rule + ")", five.setRule(1, 2, rule), false);
        }
        dueAll("after refused setRule", five, 5, 20, TourDesk.FREE);
        must(five.setRule(1, 2, TourDesk.REQUIRED));
        due("setRule(1, 2, 3) on a REQUIRED link", five.setRule(1, 2, 3), false);
        due("rule(1, 2)", five.rule(1, 2), TourDesk.REQUIRED);
        must(five.setRule(1, 2, TourDesk.BARRED));
        due("setRule(1, 2, -1) on a BARRED link", five.setRule(1, 2, -1), false);
        due("rule(1, 2)", five.rule(1, 2), TourDesk.BARRED);
    }

    private static void promise4Shift() {
        TourDesk desk = new TourDesk(5, 20);
        must(desk.setLength(2, 0, 0));
        must(desk.setLength(2, 1, 10));
        must(desk.setLength(2, 3, 90));
        must(desk.setLength(2, 4, 99));
        must(desk.setRule(2, 4, TourDesk.BARRED));
        due("shift(2, 9)", desk.shift(2, 9), 3);
        dueLinksOfTwo("shift(2, 9)", desk, 9, 19, 99, 99);
        due("shift(2, 1)", desk.shift(2, 1), 2);
        dueLinksOfTwo("shift(2, 1)", desk, 10, 20, 99, 99);
        due("shift(2, -11)", desk.shift(2, -11), 3);
        dueLinksOfTwo("shift(2, -11)", desk, 10, 9, 88, 88);
        due("shift(2, -10)", desk.shift(2, -10), 3);
        dueLinksOfTwo("shift(2, -10)", desk, 0, 9, 78, 78);
        due("shift(2, 0)", desk.shift(2, 0), 4);
        dueLinksOfTwo("shift(2, 0)", desk, 0, 9, 78, 78);
        due("shift(2, 99)", desk.shift(2, 99), 1);
        dueLinksOfTwo("shift(2, 99)", desk, 99, 9, 78, 78);
        due("shift(2, -99)", desk.shift(2, -99), 1);
        dueLinksOfTwo("shift(2, -99)", desk, 0, 9, 78, 78);
        due("rule(2, 4) after shifts", desk.rule(2, 4), TourDesk.BARRED);
        due("rule(2, 3) after shifts", desk.rule(2, 3), TourDesk.FREE);
        for (int a : new int[] {-1, 5, 6, 7, MIN, MAX}) {
            due("shift(" + a + ", 1)", desk.shift(a, 1), NONE);
            due("shift(" + a + ", 0)", desk.shift(a, 0), NONE);
        }
        for (int d : new int[] {-100, 100, MIN, MAX}) {
            due("shift(2, " + d + ")", desk.shift(2, d), NONE);
        }
        dueLinksOfTwo("refused shifts", desk, 0, 9, 78, 78);
        for (int cities = 3; cities <= 7; cities++) {
            TourDesk even = new TourDesk(cities, 40);
            for (int a = 0; a < cities; a++) {
                due("shift(" + a + ", 5) of " + cities, even.shift(a, 5), cities - 1);
            }
            // Each link was shifted once from each of its ends.
            dueAll("all shifted", even, cities, 50, TourDesk.FREE);
            due("shift(0, 50)", even.shift(0, 50), 0);
            due("shift(0, -51)", even.shift(0, -51), 0);
            due("best() after shifts", even.best(), 50 * cities);
        }
    }

    private static void dueLinksOfTwo(String when, TourDesk desk, int to0, int to1, int to3, int to4) {
        due(when + ": length(2, 0)", desk.length(2, 0), to0);
        due(when + ": length(1, 2)", desk.length(1, 2), to1);
        due(when + ": length(2, 3)", desk.length(2, 3), to3);
        due(when + ": length(4, 2)", desk.length(4, 2), to4);
        int[][] others = {{0, 1}, {0, 3}, {0, 4}, {1, 3}, {1, 4}, {3, 4}};
        for (int[] p : others) {
            due(when + ": a link not from city 2", desk.length(p[0], p[1]), 20);
        }
    }

    private static void promise5Length() {
        TourDesk desk = ring();
        due("length(0, 1)", desk.length(0, 1), 1);
        due("length(1, 0)", desk.length(1, 0), 1);
        due("length(4, 0)", desk.length(4, 0), 5);
        due("length(1, 3)", desk.length(1, 3), 50);
        for (int[] p : NO_LINKS) {
            due("length(" + p[0] + ", " + p[1] + ")", desk.length(p[0], p[1]), NONE);
        }
    }

    private static void promise6Rule() {
        TourDesk desk = ring();
        must(desk.setRule(0, 1, TourDesk.REQUIRED));
        must(desk.setRule(4, 2, TourDesk.BARRED));
        due("rule(1, 0)", desk.rule(1, 0), TourDesk.REQUIRED);
        due("rule(0, 1)", desk.rule(0, 1), TourDesk.REQUIRED);
        due("rule(2, 4)", desk.rule(2, 4), TourDesk.BARRED);
        due("rule(4, 2)", desk.rule(4, 2), TourDesk.BARRED);
        due("rule(1, 4)", desk.rule(1, 4), TourDesk.FREE);
        for (int[] p : NO_LINKS) {
            due("rule(" + p[0] + ", " + p[1] + ")", desk.rule(p[0], p[1]), NONE);
        }
    }

    private static void promise7Best() {
        due("best() of the ring", ring().best(), 15);
        due("best() of the square", square().best(), 10);
        due("best() of no lengths", new TourDesk(7, 0).best(), 0);
        due("best() of the greatest lengths", new TourDesk(7, 99).best(), 693);

        TourDesk desk = square();
        must(desk.setRule(0, 2, TourDesk.REQUIRED));
        due("best() with 0-2", desk.best(), 24);
        must(desk.setRule(1, 2, TourDesk.REQUIRED));
        due("best() with 0-2 and 1-2", desk.best(), 30);
        must(desk.setRule(2, 3, TourDesk.REQUIRED));
        due("best() with three links at city 2", desk.best(), NONE);
        must(desk.setRule(2, 3, TourDesk.FREE));
        due("best() with 2-3 free again", desk.best(), 30);
        must(desk.setRule(1, 3, TourDesk.BARRED));
        due("best() without 1-3 too", desk.best(), NONE);

        TourDesk barred = square();
        must(barred.setRule(0, 1, TourDesk.BARRED));
        due("best() without 0-1", barred.best(), 30);
        must(barred.setRule(2, 0, TourDesk.BARRED));
        due("best() without 0-1 and 0-2", barred.best(), NONE);

        TourDesk small = new TourDesk(6, 1);
        must(small.setRule(0, 1, TourDesk.REQUIRED));
        must(small.setRule(1, 2, TourDesk.REQUIRED));
        must(small.setRule(2, 0, TourDesk.REQUIRED));
        due("best() with a round trip of three among six", small.best(), NONE);
    }

    private static void promise8CityAt() {
        dueTour("all alike", new TourDesk(7, 3), 0, 1, 2, 3, 4, 5, 6);
        dueTour("three cities", new TourDesk(3, 3), 0, 1, 2);
        dueTour("ring", ring(), 0, 1, 2, 3, 4);

        TourDesk crossed = new TourDesk(6, 50);
        int[] round = {0, 4, 2, 5, 1, 3};
        for (int i = 0; i < 6; i++) {
            must(crossed.setLength(round[i], round[(i + 1) % 6], 1));
        }
        // Of the two ways round, the one that begins 0 3 is the lesser.
        dueTour("crossed ring", crossed, 0, 3, 1, 5, 2, 4);
        must(crossed.setRule(3, 1, TourDesk.BARRED));
        // Two of the long links are needed then, and 0-1 can be one of them.
        dueTour("crossed ring without 3-1", crossed, 0, 1, 5, 2, 4, 3);

        TourDesk last = new TourDesk(7, 9);
        for (int b = 1; b <= 4; b++) {
            must(last.setRule(0, b, TourDesk.BARRED));
        }
        dueTour("0 beside 5 and 6 alone", last, 0, 5, 1, 2, 3, 4, 6);

        TourDesk desk = square();
        for (int k : new int[] {-1, 4, 5, 6, 7, MIN, MAX}) {
            due("cityAt(" + k + ")", desk.cityAt(k), NONE);
        }
        must(desk.setRule(0, 1, TourDesk.BARRED));
        dueTour("square without 0-1", desk, 0, 2, 1, 3);
        must(desk.setRule(0, 2, TourDesk.BARRED));
        for (int k = -1; k <= 4; k++) {
            due("cityAt(" + k + ") without an allowed tour", desk.cityAt(k), NONE);
        }

        // Other searches between the calls leave the first best tour as it is.
        TourDesk between = square();
        due("bestWith(0, 2)", between.bestWith(0, 2), 24);
        due("cityAt(2) after bestWith", between.cityAt(2), 2);
        due("bestWithout(0, 1)", between.bestWithout(0, 1), 30);
        due("cityAt(1) after bestWithout", between.cityAt(1), 1);
    }

    private static void promise9BestWith() {
        TourDesk desk = square();
        due("bestWith(0, 1)", desk.bestWith(0, 1), 10);
        due("bestWith(0, 2)", desk.bestWith(0, 2), 24);
        due("bestWith(2, 0)", desk.bestWith(2, 0), 24);
        due("bestWith(3, 0)", desk.bestWith(3, 0), 10);
        must(desk.setRule(2, 3, TourDesk.BARRED));
        due("bestWith(0, 1) without 2-3", desk.bestWith(0, 1), NONE);
        due("bestWith(0, 2) without 2-3", desk.bestWith(0, 2), 30);
        due("bestWith(2, 3) without 2-3", desk.bestWith(2, 3), NONE);
        due("rule(2, 3) after bestWith", desk.rule(2, 3), TourDesk.BARRED);

        TourDesk required = square();
        must(required.setRule(0, 2, TourDesk.REQUIRED));
        due("bestWith(0, 2), itself REQUIRED", required.bestWith(0, 2), 24);
        due("bestWith(1, 2) beside 0-2", required.bestWith(1, 2), 30);
        must(required.setRule(1, 2, TourDesk.REQUIRED));
        due("bestWith(2, 3) beside two links at city 2", required.bestWith(2, 3), NONE);
        due("best() after bestWith", required.best(), 30);

        TourDesk five = ring();
        for (int[] p : NO_LINKS) {
            due("bestWith(" + p[0] + ", " + p[1] + ")", five.bestWith(p[0], p[1]), NONE);
        }
    }

    private static void promise10BestWithout() {
        TourDesk desk = square();
        due("bestWithout(0, 1)", desk.bestWithout(0, 1), 30);
        due("bestWithout(1, 2)", desk.bestWithout(1, 2), 24);
        due("bestWithout(2, 1)", desk.bestWithout(2, 1), 24);
        due("bestWithout(0, 2)", desk.bestWithout(0, 2), 10);
        must(desk.setRule(0, 1, TourDesk.REQUIRED));
        due("bestWithout(0, 1), itself REQUIRED", desk.bestWithout(0, 1), NONE);
        due("bestWithout(0, 2) with 0-1", desk.bestWithout(0, 2), 10);
        due("bestWithout(0, 3) with 0-1", desk.bestWithout(0, 3), 24);
        must(desk.setRule(0, 2, TourDesk.BARRED));
        due("bestWithout(0, 2), itself BARRED", desk.bestWithout(0, 2), 10);
        due("bestWithout(0, 3) that no rule names", desk.bestWithout(0, 3), NONE);
        due("best() after bestWithout", desk.best(), 10);
        due("rule(0, 3) after bestWithout", desk.rule(0, 3), TourDesk.FREE);

        TourDesk three = new TourDesk(3, 8);
        due("bestWithout(1, 2) of three cities", three.bestWithout(1, 2), NONE);

        TourDesk five = ring();
        for (int[] p : NO_LINKS) {
            due("bestWithout(" + p[0] + ", " + p[1] + ")", five.bestWithout(p[0], p[1]), NONE);
        }
    }

    private static void promise11Neighbours() {
        for (int cities = 3; cities <= 7; cities++) {
            TourDesk alike = new TourDesk(cities, 4);
            for (int a = 0; a < cities; a++) {
                due("neighbours(" + a + ") of " + cities, alike.neighbours(a), (1 << cities) - 1 - (1 << a));
            }
        }
        TourDesk desk = square();
        due("neighbours(0)", desk.neighbours(0), 0b1010);
        due("neighbours(1)", desk.neighbours(1), 0b0101);
        due("neighbours(2)", desk.neighbours(2), 0b1010);
        due("neighbours(3)", desk.neighbours(3), 0b0101);
        // Now 0 1 2 3 and 0 1 3 2 cost 24 both; the link 0-1 is in each of them.
        must(desk.setLength(1, 2, 18));
        due("neighbours(0) of two best tours", desk.neighbours(0), 0b1110);
        due("neighbours(1) of two best tours", desk.neighbours(1), 0b1101);
        must(desk.setRule(1, 3, TourDesk.BARRED));
        due("neighbours(0) without 1-3", desk.neighbours(0), 0b1010);
        must(desk.setRule(1, 2, TourDesk.BARRED));
        for (int a = -1; a <= 4; a++) {
            due("neighbours(" + a + ") without an allowed tour", desk.neighbours(a), 0);
        }
        TourDesk five = ring();
        for (int a : new int[] {-1, 5, 6, 7, 32, MIN, MAX}) {
            due("neighbours(" + a + ")", five.neighbours(a), 0);
        }
    }

    private static void promise12Limit() {
        TourDesk desk = square();
        due("limit(0, 1)", desk.limit(0, 1), 21);
        due("limit(1, 0)", desk.limit(1, 0), 21);
        due("limit(1, 2)", desk.limit(1, 2), 18);
        due("limit(0, 2), in no best tour even at the length 0", desk.limit(0, 2), NONE);
        due("length(0, 1) after limit", desk.length(0, 1), 1);
        // With 1-3 short, 0-2 belongs to the best tour if it is 8 or less: that tour is then 1 + 0 + 1 + 8.
        must(desk.setLength(1, 3, 0));
        due("limit(0, 2) below its length", desk.limit(0, 2), 8);
        must(desk.setLength(3, 0, 0));
        must(desk.setLength(1, 2, 0));
        due("limit(0, 2) by the tour 0 2 1 3", desk.limit(0, 2), 2);
        dueLimitAtZero();
        dueLimitAtTheTop();
        dueLimitUnderRules();
        TourDesk five = ring();
        for (int[] p : NO_LINKS) {
            due("limit(" + p[0] + ", " + p[1] + ")", five.limit(p[0], p[1]), NONE);
        }
    }

    /** The tours without 0-2 cost 10; with it and the length 0 they cost one less, as much, or one more. */
    private static void dueLimitAtZero() {
        int[][] cases = {{7, 1}, {8, 0}, {9, NONE}};
        for (int[] c : cases) {
            TourDesk desk = square();
            must(desk.setLength(1, 3, c[0]));
            due("limit(0, 2) with 1-3 at " + c[0], desk.limit(0, 2), c[1]);
        }
    }

    /** Of four cities with no lengths but 0-2 and 1-3: limits just below 99, at it, and held down to it. */
    private static void dueLimitAtTheTop() {
        int[][] cases = {{97, 97}, {98, 98}, {99, 99}};
        for (int[] c : cases) {
            TourDesk desk = new TourDesk(4, 0);
            must(desk.setLength(0, 2, c[0]));
            // Without 0-1 there is 0 2 1 3 alone, at the length of 0-2; with it there is 0 1 2 3.
            due("limit(0, 1) with 0-2 at " + c[0], desk.limit(0, 1), c[1]);
        }
        TourDesk far = new TourDesk(4, 0);
        must(far.setLength(0, 2, 99));
        must(far.setLength(1, 3, 1));
        due("limit(0, 1) that 100 would still meet", far.limit(0, 1), 99);
        must(far.setLength(1, 3, 99));
        due("limit(0, 1) that 198 would still meet", far.limit(0, 1), 99);
    }

    private static void dueLimitUnderRules() {
        TourDesk desk = square();
        must(desk.setRule(0, 2, TourDesk.REQUIRED));
        due("limit(0, 2), itself REQUIRED", desk.limit(0, 2), 99);
        due("limit(1, 3), which every allowed tour has", desk.limit(1, 3), 99);
        due("limit(0, 1) with 0-2", desk.limit(0, 1), 7);
        must(desk.setRule(0, 1, TourDesk.BARRED));
        due("limit(0, 1), itself BARRED", desk.limit(0, 1), NONE);
        due("limit(2, 3), which no allowed tour has", desk.limit(2, 3), NONE);
        due("limit(1, 2), which the one allowed tour has", desk.limit(1, 2), 99);
        must(desk.setRule(1, 3, TourDesk.BARRED));
        due("limit(0, 2) without an allowed tour", desk.limit(0, 2), NONE);
        for (int a = 0; a < 3; a++) {
            due("limit of three cities", new TourDesk(3, 60).limit(a, (a + 1) % 3), 99);
        }
    }

    public static void main(String[] args) {
        constants();
        promise1NewObject();
        promise2SetLength();
        promise3SetRule();
        promise4Shift();
        promise5Length();
        promise6Rule();
        promise7Best();
        promise8CityAt();
        promise9BestWith();
        promise10BestWithout();
        promise11Neighbours();
        promise12Limit();
        System.out.println(wrong == 0 ? "all answers are as due" : wrong + " answers are not as due");
        if (wrong != 0) {
            System.exit(1);
        }
    }
}
