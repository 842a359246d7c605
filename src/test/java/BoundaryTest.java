import java.util.ArrayList;
import java.util.List;

/**
 * One test for each sentence of the document that names a boundary case; a wrong answer is told with that sentence.
 * No desk is asked more than 512 times: each refused call is made on a desk of its own.
 */
public final class BoundaryTest {
    private static final int MIN = Integer.MIN_VALUE;
    private static final int MAX = Integer.MAX_VALUE;
    private static final int NONE = TourDesk.NONE;
    private static final int FREE = TourDesk.FREE;
    private static final int REQUIRED = TourDesk.REQUIRED;
    private static final int BARRED = TourDesk.BARRED;

    // A length that no link of a mixed desk has, so that a link that wrongly took it would be seen.
    private static final int STRANGE_LENGTH = 55;

    // Beside the nearest and the farthest there are numbers that a product by 7 or a shift by 32 or 64 wraps to a city.
    private static final int[] NEVER_CITIES = {
        -1, -2, -7, 7, 8, 32, 64, 613566757, -613566756, MIN, MIN + 1, MAX - 1, MAX,
    };
    private static final int[] NEVER_LENGTHS = {-1, -2, 100, 101, 128, 256, 65536, MIN, MIN + 1, MAX - 1, MAX};
    private static final int[] NEVER_RULES = {-1, -2, 3, 4, 256, 257, 65538, MIN, MIN + 1, MAX - 1, MAX};
    private static final int[] NEVER_SHIFTS = {-100, 100, -101, 101, 256, -256, 65536, MIN, MIN + 1, MAX - 1, MAX};

    private static String sentence = "";
    private static int tests = 0;
    private static int wrong = 0;

    private interface Call {
        int on(TourDesk desk);
    }

    private interface LinkCall {
        int on(TourDesk desk, int a, int b);
    }

    private static void test(String where, String words, Runnable body) {
        tests++;
        sentence = where + ", \"" + words + "\"";
        body.run();
    }

    private static void due(String call, int got, int want) {
        if (got != want) {
            wrong++;
            System.out.println(sentence + ": " + call + " answered " + got + ", due is " + want);
        }
    }

    private static int number(boolean answer) {
        return answer ? 1 : 0;
    }

    private static void setLength(TourDesk desk, int a, int b, int d) {
        due("setLength(" + a + ", " + b + ", " + d + ")", number(desk.setLength(a, b, d)), 1);
    }

    private static void setRule(TourDesk desk, int a, int b, int rule) {
        due("setRule(" + a + ", " + b + ", " + rule + ")", number(desk.setRule(a, b, rule)), 1);
    }

    private static void dueTour(String when, TourDesk desk, int... cities) {
        for (int k = 0; k < cities.length; k++) {
            due(when + ": cityAt(" + k + ")", desk.cityAt(k), cities[k]);
        }
    }

    /** A desk whose links differ in length, with links of every rule and at least one allowed tour. */
    private static TourDesk mixed(int cities) {
        TourDesk desk = new TourDesk(cities, 50);
        for (int a = 0; a < cities; a++) {
            for (int b = a + 1; b < cities; b++) {
                setLength(desk, a, b, 1 + a * 12 + b * 4);
            }
        }
        setRule(desk, 0, 1, REQUIRED);
        if (cities > 3) {
            setRule(desk, 0, 2, BARRED);
        }
        return desk;
    }

    /** All that a desk can be asked: 162 calls at seven cities. */
    private static List<Integer> state(TourDesk desk, int cities) {
        List<Integer> told = new ArrayList<>();
        told.add(desk.best());
        for (int a = 0; a < cities; a++) {
            told.add(desk.cityAt(a));
            told.add(desk.neighbours(a));
            for (int b = 0; b < a; b++) {
                told.add(desk.length(a, b));
                told.add(desk.length(b, a));
                told.add(desk.rule(a, b));
                told.add(desk.rule(b, a));
                told.add(desk.bestWith(a, b));
                told.add(desk.bestWithout(a, b));
                told.add(desk.limit(a, b));
            }
        }
        return told;
    }

    private static void dueSame(String when, TourDesk desk, TourDesk twin, int cities) {
        List<Integer> got = state(desk, cities);
        List<Integer> want = state(twin, cities);
        if (!got.equals(want)) {
            wrong++;
            System.out.println(sentence + ": after " + when + " the desk tells " + got + ", due is " + want);
        }
    }

    private static void dueRefused(String call, int cities, Call made, int want) {
        TourDesk desk = mixed(cities);
        String where = call + " of " + cities + " cities";
        due(where, made.on(desk), want);
        dueSame(where, desk, mixed(cities), cities);
    }

    private static List<Integer> noCities(int cities) {
        List<Integer> found = new ArrayList<>();
        for (int city = cities; city < 7; city++) {
            found.add(city);
        }
        for (int city : NEVER_CITIES) {
            found.add(city);
        }
        return found;
    }

    private static void dueRefusedWhenSame(String name, LinkCall call, int want) {
        for (int cities = 3; cities <= 7; cities++) {
            for (int a = 0; a < cities; a++) {
                int city = a;
                dueRefused(name + " of " + a + " and " + a, cities, desk -> call.on(desk, city, city), want);
            }
        }
    }

    private static void dueRefusedWhenNoCity(String name, LinkCall call, int want) {
        for (int cities = 3; cities <= 7; cities++) {
            for (int no : noCities(cities)) {
                for (int city : new int[] {0, 1, cities - 1, no, -1 - no}) {
                    dueRefused(name + " of " + no + " and " + city, cities, desk -> call.on(desk, no, city), want);
                    dueRefused(name + " of " + city + " and " + no, cities, desk -> call.on(desk, city, no), want);
                }
            }
        }
    }

    /** Four cities with three different tours: 10 (0 1 2 3), 24 (0 1 3 2) and 30 (0 2 1 3). */
    private static TourDesk square() {
        TourDesk desk = new TourDesk(4, 0);
        setLength(desk, 0, 1, 1);
        setLength(desk, 1, 2, 4);
        setLength(desk, 2, 3, 1);
        setLength(desk, 3, 0, 4);
        setLength(desk, 0, 2, 11);
        setLength(desk, 1, 3, 11);
        return desk;
    }

    /** Desks that differ in why they have no allowed tour. */
    private static List<TourDesk> withoutTour() {
        List<TourDesk> found = new ArrayList<>();
        for (int cities = 3; cities <= 7; cities++) {
            found.add(oneLinkLeftAtTheLastCity(cities));
            found.add(allLinks(cities, BARRED));
            if (cities > 3) {
                found.add(threeRequiredAtCityZero(cities));
                found.add(shortRoundTripRequired(cities));
                found.add(allLinks(cities, REQUIRED));
            }
        }
        return found;
    }

    private static TourDesk oneLinkLeftAtTheLastCity(int cities) {
        TourDesk desk = new TourDesk(cities, 20);
        for (int b = 1; b < cities - 1; b++) {
            setRule(desk, cities - 1, b, BARRED);
        }
        return desk;
    }

    private static TourDesk threeRequiredAtCityZero(int cities) {
        TourDesk desk = new TourDesk(cities, 20);
        for (int b = 1; b <= 3; b++) {
            setRule(desk, 0, b, REQUIRED);
        }
        return desk;
    }

    private static TourDesk shortRoundTripRequired(int cities) {
        TourDesk desk = new TourDesk(cities, 20);
        setRule(desk, 1, 2, REQUIRED);
        setRule(desk, 2, 3, REQUIRED);
        setRule(desk, 3, 1, REQUIRED);
        return desk;
    }

    private static TourDesk allLinks(int cities, int rule) {
        TourDesk desk = new TourDesk(cities, 20);
        for (int a = 0; a < cities; a++) {
            for (int b = 0; b < a; b++) {
                setRule(desk, a, b, rule);
            }
        }
        return desk;
    }

    // What it is

    /** 511 calls that leave seven cities with every link FREE and 10 long. */
    private static TourDesk usedDesk() {
        TourDesk desk = new TourDesk(7, 50);
        for (int i = 0; i < 469; i++) {
            anyCall(desk, i);
        }
        for (int a = 0; a < 7; a++) {
            for (int b = 0; b < a; b++) {
                desk.setRule(a, b, FREE);
                desk.setLength(a, b, 10);
            }
        }
        return desk;
    }

    private static void anyCall(TourDesk desk, int i) {
        int a = i / 11 % 8;
        int b = i / 5 % 8;
        switch (i % 11) {
            case 0 -> desk.setLength(a, b, i % 101);
            case 1 -> desk.setRule(a, b, i % 4);
            case 2 -> desk.shift(a, i % 50 - 25);
            case 3 -> desk.length(a, b);
            case 4 -> desk.rule(a, b);
            case 5 -> desk.best();
            case 6 -> desk.cityAt(a);
            case 7 -> desk.bestWith(a, b);
            case 8 -> desk.bestWithout(a, b);
            case 9 -> desk.neighbours(a);
            default -> desk.limit(a, b);
        }
    }

    private static void call512() {
        due("setLength as call 512", number(usedDesk().setLength(5, 6, 99)), 1);
        due("setLength(6, 6, 99) as call 512", number(usedDesk().setLength(6, 6, 99)), 0);
        due("setRule as call 512", number(usedDesk().setRule(5, 6, BARRED)), 1);
        due("setRule(5, 6, 3) as call 512", number(usedDesk().setRule(5, 6, 3)), 0);
        due("shift as call 512", usedDesk().shift(6, -10), 6);
        due("length as call 512", usedDesk().length(5, 6), 10);
        due("rule as call 512", usedDesk().rule(5, 6), FREE);
        due("best as call 512", usedDesk().best(), 70);
        due("cityAt as call 512", usedDesk().cityAt(6), 6);
        due("bestWith as call 512", usedDesk().bestWith(5, 6), 70);
        due("bestWithout as call 512", usedDesk().bestWithout(5, 6), 70);
        due("neighbours as call 512", usedDesk().neighbours(6), 0b0111111);
        due("limit as call 512", usedDesk().limit(5, 6), 10);
    }

    // Terms

    private static void threeToSevenCities() {
        for (int cities = 3; cities <= 7; cities++) {
            TourDesk desk = new TourDesk(cities, 8);
            due("length(0, " + (cities - 1) + ")", desk.length(0, cities - 1), 8);
            due("length(0, " + cities + ")", desk.length(0, cities), NONE);
            due("length(0, -1)", desk.length(0, -1), NONE);
            due("shift(" + (cities - 1) + ", 1)", desk.shift(cities - 1, 1), cities - 1);
            due("shift(" + cities + ", 1)", desk.shift(cities, 1), NONE);
        }
    }

    private static void sameInBothDirections() {
        for (int a = 0; a < 7; a++) {
            for (int b = 0; b < 7; b++) {
                if (a != b) {
                    TourDesk desk = new TourDesk(7, 8);
                    setLength(desk, a, b, 9);
                    setRule(desk, a, b, BARRED);
                    dueOnlyLinkChanged(desk, a, b);
                }
            }
        }
    }

    private static void dueOnlyLinkChanged(TourDesk desk, int a, int b) {
        for (int from = 0; from < 7; from++) {
            for (int to = 0; to < 7; to++) {
                if (from != to) {
                    boolean it = from == a && to == b || from == b && to == a;
                    due("length(" + from + ", " + to + ")", desk.length(from, to), it ? 9 : 8);
                    due("rule(" + from + ", " + to + ")", desk.rule(from, to), it ? BARRED : FREE);
                }
            }
        }
    }

    private static void lastLinkClosesTheTour() {
        TourDesk desk = new TourDesk(3, 10);
        setLength(desk, 2, 0, 31);
        due("best() of three cities", desk.best(), 51);
        setRule(desk, 0, 2, REQUIRED);
        due("best() with the closing link REQUIRED", desk.best(), 51);
        dueTour("with the closing link REQUIRED", desk, 0, 1, 2);
        setRule(desk, 0, 2, BARRED);
        due("best() with the closing link BARRED", desk.best(), NONE);

        TourDesk seven = new TourDesk(7, 10);
        setRule(seven, 0, 6, BARRED);
        dueTour("with the closing link BARRED", seven, 0, 1, 2, 3, 4, 6, 5);
    }

    private static void allRequiredAndNoneBarred() {
        TourDesk desk = new TourDesk(5, 10);
        setRule(desk, 0, 2, REQUIRED);
        dueTour("with 0-2", desk, 0, 1, 3, 4, 2);
        setRule(desk, 1, 4, REQUIRED);
        dueTour("and with 1-4", desk, 0, 1, 4, 3, 2);
        setRule(desk, 0, 1, BARRED);
        dueTour("and without 0-1", desk, 0, 2, 1, 4, 3);
        setRule(desk, 1, 2, BARRED);
        dueTour("and without 1-2", desk, 0, 2, 3, 1, 4);
        setRule(desk, 1, 3, BARRED);
        due("best() and without 1-3", desk.best(), NONE);
        // All links of one tour REQUIRED leave that tour, even with every other link BARRED.
        TourDesk one = allLinks(5, BARRED);
        int[] round = {0, 3, 1, 4, 2};
        for (int i = 0; i < 5; i++) {
            setRule(one, round[i], round[(i + 1) % 5], REQUIRED);
        }
        due("best() of one tour REQUIRED", one.best(), 100);
        dueTour("one tour REQUIRED", one, 0, 2, 4, 1, 3);
        due("best() of three cities, all links REQUIRED", allLinks(3, REQUIRED).best(), 60);
    }

    private static void costIsTheSum() {
        for (int cities = 3; cities <= 7; cities++) {
            due("best() of " + cities + " at 0", new TourDesk(cities, 0).best(), 0);
            due("best() of " + cities + " at 99", new TourDesk(cities, 99).best(), 99 * cities);
            due("bestWith(0, 1) of " + cities + " at 0", new TourDesk(cities, 0).bestWith(0, 1), 0);
            due("bestWith(0, 1) of " + cities + " at 99", new TourDesk(cities, 99).bestWith(0, 1), 99 * cities);
        }
    }

    private static void bothWaysRound() {
        // The best tour is 0 5 4 3 2 1 6 or 0 6 1 2 3 4 5: of all pairs the one whose lesser list is the greatest.
        for (int cities = 3; cities <= 7; cities++) {
            int[] round = new int[cities];
            for (int k = 1; k < cities - 1; k++) {
                round[k] = cities - 1 - k;
            }
            round[cities - 1] = cities - 1;
            TourDesk desk = new TourDesk(cities, 2);
            for (int k = 0; k < cities; k++) {
                setLength(desk, round[k], round[(k + 1) % cities], 1);
            }
            due("best()", desk.best(), cities);
            dueTour("the lesser way round", desk, round);
        }
    }

    // Promise 1

    private static void dueMade(int cities, int length, int dueCities, int dueLength) {
        String made = "new TourDesk(" + cities + ", " + length + ")";
        TourDesk desk = new TourDesk(cities, length);
        for (int a = 0; a < dueCities; a++) {
            for (int b = 0; b < dueCities; b++) {
                due(made + ": length(" + a + ", " + b + ")", desk.length(a, b), a == b ? NONE : dueLength);
                due(made + ": rule(" + a + ", " + b + ")", desk.rule(a, b), a == b ? NONE : FREE);
            }
            due(made + ": length(" + a + ", " + dueCities + ")", desk.length(a, dueCities), NONE);
            due(made + ": cityAt(" + a + ")", desk.cityAt(a), a);
        }
        due(made + ": cityAt(" + dueCities + ")", desk.cityAt(dueCities), NONE);
        due(made + ": best()", desk.best(), dueCities * dueLength);
    }

    private static void newLinksAlike() {
        for (int cities = 3; cities <= 7; cities++) {
            for (int length = 0; length <= 99; length++) {
                dueMade(cities, length, cities, length);
            }
        }
    }

    private static void citiesClamped() {
        for (int few : new int[] {2, 1, 0, -1, -4, -7, MIN, MIN + 1}) {
            dueMade(few, 30, 3, 30);
        }
        for (int many : new int[] {8, 9, 49, 256, 259, MAX - 1, MAX}) {
            dueMade(many, 30, 7, 30);
        }
        dueMade(3, 30, 3, 30);
        dueMade(7, 30, 7, 30);
    }

    private static void lengthClamped() {
        for (int small : new int[] {-1, -2, -99, -100, MIN, MIN + 1}) {
            dueMade(4, small, 4, 0);
        }
        for (int great : new int[] {100, 101, 199, 256, 65536, MAX - 1, MAX}) {
            dueMade(4, great, 4, 99);
        }
        dueMade(4, 0, 4, 0);
        dueMade(4, 99, 4, 99);
        dueMade(MIN, MIN, 3, 0);
        dueMade(MAX, MAX, 7, 99);
        dueMade(MIN, MAX, 3, 99);
        dueMade(MAX, MIN, 7, 0);
    }

    // Promise 2

    private static int setStrangeLength(TourDesk desk, int a, int b) {
        return number(desk.setLength(a, b, STRANGE_LENGTH));
    }

    private static void setLengthRefusesNoLength() {
        for (int cities = 3; cities <= 7; cities++) {
            int last = cities - 1;
            for (int d : NEVER_LENGTHS) {
                dueRefused("setLength(0, 1, " + d + ")", cities, desk -> number(desk.setLength(0, 1, d)), 0);
                dueRefused("setLength(last, 0, " + d + ")", cities, desk -> number(desk.setLength(last, 0, d)), 0);
            }
        }
        dueRefused("setLength(1, 1, -1)", 5, desk -> number(desk.setLength(1, 1, -1)), 0);
        dueRefused("setLength(5, 1, 100)", 5, desk -> number(desk.setLength(5, 1, 100)), 0);
    }

    private static void setLengthTakesEveryLength() {
        TourDesk desk = new TourDesk(4, 50);
        for (int d = 0; d <= 99; d++) {
            setLength(desk, 3, 1, d);
            due("length(1, 3)", desk.length(1, 3), d);
        }
        // The length that it has already is no reason to refuse.
        setLength(desk, 1, 3, 99);
        due("length(3, 1)", desk.length(3, 1), 99);
        due("length(0, 1)", desk.length(0, 1), 50);
    }

    // Promise 3

    private static void setRuleRefusesSameCity() {
        for (int rule = 0; rule <= 2; rule++) {
            int given = rule;
            dueRefusedWhenSame("setRule to " + rule, (desk, a, b) -> number(desk.setRule(a, b, given)), 0);
        }
    }

    private static void setRuleRefusesNoCity() {
        for (int rule = 0; rule <= 2; rule++) {
            int given = rule;
            dueRefusedWhenNoCity("setRule to " + rule, (desk, a, b) -> number(desk.setRule(a, b, given)), 0);
        }
    }

    private static void setRuleRefusesNoRule() {
        // The links 0-1, 0-2 and 0-3 of a mixed desk are REQUIRED, BARRED and FREE.
        for (int rule : NEVER_RULES) {
            for (int b = 1; b <= 3; b++) {
                int to = b;
                dueRefused("setRule(0, " + b + ", " + rule + ")", 5, desk -> number(desk.setRule(0, to, rule)), 0);
                dueRefused("setRule(" + b + ", 0, " + rule + ")", 7, desk -> number(desk.setRule(to, 0, rule)), 0);
            }
        }
        dueRefused("setRule(1, 1, 3)", 5, desk -> number(desk.setRule(1, 1, 3)), 0);
        dueRefused("setRule(5, 1, -1)", 5, desk -> number(desk.setRule(5, 1, -1)), 0);
    }

    private static void setRuleTakesEveryRule() {
        for (int from = 0; from <= 2; from++) {
            for (int to = 0; to <= 2; to++) {
                TourDesk desk = new TourDesk(7, 50);
                setRule(desk, 6, 5, from);
                setRule(desk, 5, 6, to);
                due("rule(6, 5) from " + from + " to " + to, desk.rule(6, 5), to);
                due("rule(5, 4) beside it", desk.rule(5, 4), FREE);
                due("bestWith(5, 6)", desk.bestWith(5, 6), to == BARRED ? NONE : 350);
                due("bestWithout(5, 6)", desk.bestWithout(5, 6), to == REQUIRED ? NONE : 350);
            }
        }
    }

    // Promise 4

    private static void shiftStaysInRange() {
        for (int length = 0; length <= 99; length++) {
            for (int d = -99; d <= 99; d++) {
                TourDesk desk = new TourDesk(3, length);
                int shifted = length + d;
                boolean fits = shifted >= 0 && shifted <= 99;
                String call = "shift(2, " + d + ") of the length " + length;
                due(call, desk.shift(2, d), fits ? 2 : 0);
                due("length(0, 2) after " + call, desk.length(0, 2), fits ? shifted : length);
                due("length(2, 1) after " + call, desk.length(2, 1), fits ? shifted : length);
                due("length(0, 1) after " + call, desk.length(0, 1), length);
            }
        }
    }

    /** Links from city 2 just inside and just outside of what may be shifted, the other links at 50. */
    private static void dueShift(int d, int changed, int[] before, int[] after) {
        TourDesk desk = new TourDesk(7, 50);
        setRule(desk, 2, 0, REQUIRED);
        setRule(desk, 2, 1, BARRED);
        for (int b = 0; b < 7; b++) {
            if (b != 2) {
                setLength(desk, 2, b, before[b]);
            }
        }
        due("shift(2, " + d + ")", desk.shift(2, d), changed);
        for (int a = 0; a < 7; a++) {
            for (int b = 0; b < a; b++) {
                int due = a == 2 ? after[b] : b == 2 ? after[a] : 50;
                due("length(" + a + ", " + b + ") after shift(2, " + d + ")", desk.length(a, b), due);
                int rule = a == 2 && b == 0 ? REQUIRED : a == 2 && b == 1 ? BARRED : FREE;
                due("rule(" + a + ", " + b + ") after shift(2, " + d + ")", desk.rule(a, b), rule);
            }
        }
    }

    private static void shiftCountsTheChanged() {
        int[] low = {9, 10, 0, 11, 0, 99, 50};
        dueShift(-10, 4, low, new int[] {9, 0, 0, 1, 0, 89, 40});
        int[] high = {90, 89, 0, 88, 99, 0, 50};
        dueShift(10, 4, high, new int[] {90, 99, 0, 98, 99, 10, 60});
        int[] ends = {0, 99, 0, 1, 98, 0, 99};
        dueShift(99, 2, ends, new int[] {99, 99, 0, 1, 98, 99, 99});
        dueShift(-99, 2, ends, new int[] {0, 0, 0, 1, 98, 0, 0});
        dueShift(1, 4, ends, new int[] {1, 99, 0, 2, 99, 1, 99});
        dueShift(-1, 4, ends, new int[] {0, 98, 0, 0, 97, 0, 98});
        int[] none = {95, 96, 0, 97, 98, 99, 95};
        dueShift(5, 0, none, none);
    }

    private static void shiftByZeroCounts() {
        for (int cities = 3; cities <= 7; cities++) {
            for (int a = 0; a < cities; a++) {
                TourDesk desk = mixed(cities);
                due("shift(" + a + ", 0) of " + cities + " cities", desk.shift(a, 0), cities - 1);
                dueSame("shift(" + a + ", 0)", desk, mixed(cities), cities);
            }
        }
        due("shift(0, 0) at the length 0", new TourDesk(7, 0).shift(0, 0), 6);
        due("shift(0, 0) at the length 99", new TourDesk(7, 99).shift(0, 0), 6);
    }

    private static void shiftRefusesNoCity() {
        for (int cities = 3; cities <= 7; cities++) {
            for (int no : noCities(cities)) {
                for (int d : new int[] {-1, 0, 1}) {
                    dueRefused("shift(" + no + ", " + d + ")", cities, desk -> desk.shift(no, d), NONE);
                }
            }
        }
    }

    private static void shiftRefusesFarShifts() {
        for (int cities = 3; cities <= 7; cities++) {
            int last = cities - 1;
            for (int d : NEVER_SHIFTS) {
                dueRefused("shift(0, " + d + ")", cities, desk -> desk.shift(0, d), NONE);
                dueRefused("shift(last, " + d + ")", cities, desk -> desk.shift(last, d), NONE);
            }
        }
        for (int length : new int[] {0, 99}) {
            due("shift(0, 100)", new TourDesk(4, length).shift(0, 100), NONE);
            due("shift(0, -100)", new TourDesk(4, length).shift(0, -100), NONE);
        }
        due("shift(0, 99)", new TourDesk(4, 0).shift(0, 99), 3);
        due("shift(0, -99)", new TourDesk(4, 99).shift(0, -99), 3);
        due("shift(0, 99) that no link can take", new TourDesk(4, 1).shift(0, 99), 0);
        due("shift(0, -99) that no link can take", new TourDesk(4, 98).shift(0, -99), 0);
    }

    // Promise 7

    private static void bestWithoutTour() {
        for (TourDesk desk : withoutTour()) {
            due("best()", desk.best(), NONE);
        }
        TourDesk again = oneLinkLeftAtTheLastCity(7);
        setRule(again, 6, 3, FREE);
        due("best() when there is an allowed tour again", again.best(), 140);
    }

    // Promise 8

    private static void leastInDictionaryOrder() {
        dueTour("three alike", new TourDesk(3, 5), 0, 1, 2);
        dueTour("seven alike", new TourDesk(7, 5), 0, 1, 2, 3, 4, 5, 6);
        TourDesk first = new TourDesk(7, 5);
        setRule(first, 0, 1, BARRED);
        dueTour("seven alike without 0-1", first, 0, 2, 1, 3, 4, 5, 6);
        TourDesk last = new TourDesk(7, 5);
        setLength(last, 6, 0, 6);
        dueTour("seven alike but 0-6 longer", last, 0, 1, 2, 3, 4, 6, 5);
    }

    private static void leastOfThoseWithTheCostBest() {
        // A lesser list is no first best tour if it costs more, or costs less and is not allowed.
        TourDesk desk = square();
        setLength(desk, 0, 2, 0);
        setLength(desk, 1, 3, 0);
        dueTour("0 1 3 2 cheaper than 0 1 2 3", desk, 0, 1, 3, 2);
        setRule(desk, 0, 1, BARRED);
        due("best() without 0-1", desk.best(), 8);
        dueTour("0 2 1 3 alone", desk, 0, 2, 1, 3);
        // 0 1 2 3 and 0 1 3 2 cost 24 both.
        TourDesk tie = square();
        setLength(tie, 1, 2, 18);
        dueTour("0 1 2 3 as cheap as 0 1 3 2", tie, 0, 1, 2, 3);
        setLength(tie, 1, 2, 19);
        dueTour("0 1 2 3 dearer by one", tie, 0, 1, 3, 2);
    }

    private static void cityAtWithoutTour() {
        for (TourDesk desk : withoutTour()) {
            for (int k = -1; k <= 7; k++) {
                due("cityAt(" + k + ")", desk.cityAt(k), NONE);
            }
        }
        // A tour that was found before the rules ruled it out is not told again.
        TourDesk desk = new TourDesk(3, 5);
        due("cityAt(2)", desk.cityAt(2), 2);
        setRule(desk, 0, 1, BARRED);
        due("cityAt(2) without 0-1", desk.cityAt(2), NONE);
    }

    private static void cityAtNoPlace() {
        for (int cities = 3; cities <= 7; cities++) {
            for (int no : noCities(cities)) {
                dueRefused("cityAt(" + no + ")", cities, desk -> desk.cityAt(no), NONE);
            }
            due("cityAt(0)", new TourDesk(cities, 5).cityAt(0), 0);
            due("cityAt(last)", new TourDesk(cities, 5).cityAt(cities - 1), cities - 1);
        }
    }

    // Promises 9 and 10

    private static void bestWithNone() {
        for (TourDesk desk : withoutTour()) {
            due("bestWith(0, 1) without an allowed tour", desk.bestWith(0, 1), NONE);
            due("bestWith(2, 1) without an allowed tour", desk.bestWith(2, 1), NONE);
        }
        TourDesk desk = new TourDesk(6, 20);
        setRule(desk, 0, 1, BARRED);
        due("bestWith of the BARRED link", desk.bestWith(1, 0), NONE);
        setRule(desk, 2, 3, REQUIRED);
        setRule(desk, 3, 4, REQUIRED);
        due("bestWith of a third link at city 3", desk.bestWith(3, 0), NONE);
        due("bestWith of the link that closes a round trip of three", desk.bestWith(2, 4), NONE);
        due("bestWith of a REQUIRED link", desk.bestWith(2, 3), 120);
        due("best() beside them", desk.best(), 120);
    }

    private static void bestWithoutNone() {
        for (TourDesk desk : withoutTour()) {
            due("bestWithout(0, 1) without an allowed tour", desk.bestWithout(0, 1), NONE);
            due("bestWithout(2, 1) without an allowed tour", desk.bestWithout(2, 1), NONE);
        }
        due("bestWithout(0, 1) of three cities", new TourDesk(3, 20).bestWithout(0, 1), NONE);
        TourDesk desk = new TourDesk(5, 20);
        setRule(desk, 0, 1, REQUIRED);
        due("bestWithout of the REQUIRED link", desk.bestWithout(1, 0), NONE);
        setRule(desk, 4, 1, BARRED);
        setRule(desk, 4, 3, BARRED);
        due("bestWithout of one of two links left at city 4", desk.bestWithout(0, 4), NONE);
        due("bestWithout of the other one", desk.bestWithout(4, 2), NONE);
        due("bestWithout of a BARRED link", desk.bestWithout(1, 4), 100);
        due("best() beside them", desk.best(), 100);
    }

    // Promise 11

    private static void neighboursOfEveryBestTour() {
        for (int cities = 3; cities <= 7; cities++) {
            for (int a = 0; a < cities; a++) {
                int others = (1 << cities) - 1 - (1 << a);
                due("neighbours(" + a + ") of " + cities + " alike", new TourDesk(cities, 99).neighbours(a), others);
            }
        }
        TourDesk desk = square();
        due("neighbours(0) of one best tour", desk.neighbours(0), 0b1010);
        setLength(desk, 1, 2, 18);
        due("neighbours(0) of two best tours", desk.neighbours(0), 0b1110);
        setLength(desk, 1, 2, 19);
        due("neighbours(0) with one of them dearer by one", desk.neighbours(0), 0b0110);
        setLength(desk, 1, 2, 17);
        due("neighbours(0) with one of them cheaper by one", desk.neighbours(0), 0b1010);
        setRule(desk, 1, 2, BARRED);
        due("neighbours(0) with the cheaper one not allowed", desk.neighbours(0), 0b0110);
    }

    private static void neighboursWithoutTour() {
        for (TourDesk desk : withoutTour()) {
            for (int a = -1; a <= 7; a++) {
                due("neighbours(" + a + ")", desk.neighbours(a), 0);
            }
        }
    }

    private static void neighboursOfNoCity() {
        for (int cities = 3; cities <= 7; cities++) {
            for (int no : noCities(cities)) {
                dueRefused("neighbours(" + no + ")", cities, desk -> desk.neighbours(no), 0);
            }
        }
    }

    // Promise 12

    /** The words of the document: at this length some best tour has the link, at no greater length one does. */
    private static void dueGreatest(String when, int cities, int a, int b, java.util.function.Supplier<TourDesk> made) {
        int want = NONE;
        for (int d = 0; d <= 99; d++) {
            TourDesk desk = made.get();
            setLength(desk, a, b, d);
            if ((desk.neighbours(a) >> b & 1) == 1) {
                want = d;
            }
        }
        TourDesk desk = made.get();
        due(when + ": limit(" + a + ", " + b + ")", desk.limit(a, b), want);
        dueSame(when + ": limit(" + a + ", " + b + ")", desk, made.get(), cities);
    }

    private static void limitIsTheGreatest() {
        for (int a = 0; a < 4; a++) {
            for (int b = 0; b < a; b++) {
                dueGreatest("square", 4, a, b, BoundaryTest::square);
            }
        }
        for (int a = 0; a < 5; a++) {
            for (int b = 0; b < a; b++) {
                dueGreatest("mixed", 5, a, b, () -> mixed(5));
                dueGreatest("mixed, turned", 5, b, a, () -> mixed(5));
            }
        }
    }

    /** With the other tours at 10, the ones with 0-2 cost 2 and the lengths of 0-2 and 1-3 (or 4 + 4 more). */
    private static void limitAtItsLeast() {
        int[][] cases = {{7, 1}, {8, 0}};
        for (int[] c : cases) {
            TourDesk desk = square();
            setLength(desk, 1, 3, c[0]);
            due("limit(0, 2) with 1-3 at " + c[0], desk.limit(0, 2), c[1]);
            setLength(desk, 0, 2, 0);
            due("limit(0, 2) at the length 0", desk.limit(0, 2), c[1]);
            setLength(desk, 0, 2, 99);
            due("limit(0, 2) at the length 99", desk.limit(0, 2), c[1]);
        }
    }

    /** Of four cities with no lengths but 0-2 and 1-3, the tour without 0-1 costs what those two cost. */
    private static void limitAtItsGreatest() {
        int[][] cases = {{97, 0, 97}, {98, 0, 98}, {99, 0, 99}, {98, 1, 99}, {99, 1, 99}, {99, 99, 99}};
        for (int[] c : cases) {
            TourDesk desk = new TourDesk(4, 0);
            setLength(desk, 0, 2, c[0]);
            setLength(desk, 1, 3, c[1]);
            due("limit(0, 1) with " + c[0] + " and " + c[1], desk.limit(0, 1), c[2]);
        }
    }

    private static void limitWithNoSuchLength() {
        for (int tooLong : new int[] {9, 10, 99}) {
            TourDesk desk = square();
            setLength(desk, 1, 3, tooLong);
            due("limit(0, 2) with 1-3 at " + tooLong, desk.limit(0, 2), NONE);
            setLength(desk, 0, 2, 0);
            due("limit(0, 2) at the length 0", desk.limit(0, 2), NONE);
        }
    }

    private static void limitWithNoTourThatHasTheLink() {
        for (TourDesk desk : withoutTour()) {
            due("limit(0, 1) without an allowed tour", desk.limit(0, 1), NONE);
            due("limit(2, 1) without an allowed tour", desk.limit(2, 1), NONE);
        }
        TourDesk desk = new TourDesk(6, 20);
        setRule(desk, 0, 1, BARRED);
        setLength(desk, 0, 1, 0);
        due("limit of the BARRED link", desk.limit(0, 1), NONE);
        setRule(desk, 2, 3, REQUIRED);
        setRule(desk, 3, 4, REQUIRED);
        due("limit of a third link at city 3", desk.limit(0, 3), NONE);
        due("limit of the link that closes a round trip of three", desk.limit(4, 2), NONE);
        due("best() beside them", desk.best(), 120);
    }

    private static void limitOfALinkOfEveryTour() {
        for (int length : new int[] {0, 60, 99}) {
            for (int a = 0; a < 3; a++) {
                due("limit of three cities", new TourDesk(3, length).limit(a, (a + 1) % 3), 99);
            }
            TourDesk desk = new TourDesk(7, length);
            setRule(desk, 0, 6, REQUIRED);
            due("limit of the REQUIRED link", desk.limit(6, 0), 99);
            TourDesk two = oneLinkLeftAtTheLastCity(5);
            setRule(two, 4, 2, FREE);
            setLength(two, 4, 2, length);
            due("limit of one of two links left at city 4", two.limit(2, 4), 99);
            due("limit of the other one", two.limit(4, 0), 99);
        }
    }

    // The list of the sentences

    private static void terms() {
        test("What it is", "used for at most 512 calls after it has been made", BoundaryTest::call512);
        test("Terms", "cities 0 .. cities - 1 (three to seven of them)", BoundaryTest::threeToSevenCities);
        test("Terms", "one LINK, the same in both directions", BoundaryTest::sameInBothDirections);
        test("Terms", "and the one between the last city and city 0", BoundaryTest::lastLinkClosesTheTour);
        test("Terms", "all REQUIRED links are among its links and no BARRED link is",
            BoundaryTest::allRequiredAndNoneBarred);
        test("Terms", "the sum of the lengths of its links", BoundaryTest::costIsTheSum);
        test("Terms", "the one that goes the other way round", BoundaryTest::bothWaysRound);
    }

    private static void promises1To4() {
        test("Promise 1", "All links have this length and are FREE", BoundaryTest::newLinksAlike);
        test("Promise 1", "cities: clamped to 3 .. 7", BoundaryTest::citiesClamped);
        test("Promise 1", "length: clamped to 0 .. 99", BoundaryTest::lengthClamped);
        test("Promise 2", "false, changing nothing, when a = b",
            () -> dueRefusedWhenSame("setLength", BoundaryTest::setStrangeLength, 0));
        test("Promise 2", "a or b is no city",
            () -> dueRefusedWhenNoCity("setLength", BoundaryTest::setStrangeLength, 0));
        test("Promise 2", "or d is not 0 .. 99", BoundaryTest::setLengthRefusesNoLength);
        test("Promise 2", "the length d and answers true", BoundaryTest::setLengthTakesEveryLength);
        test("Promise 3", "false, changing nothing, when a = b", BoundaryTest::setRuleRefusesSameCity);
        test("Promise 3", "a or b is no city", BoundaryTest::setRuleRefusesNoCity);
        test("Promise 3", "or rule is not 0 .. 2", BoundaryTest::setRuleRefusesNoRule);
        test("Promise 3", "a rule and answers true", BoundaryTest::setRuleTakesEveryRule);
        test("Promise 4", "where that is 0 .. 99, and leaves the others", BoundaryTest::shiftStaysInRange);
        test("Promise 4", "answers how many were changed", BoundaryTest::shiftCountsTheChanged);
        test("Promise 4", "those with d = 0 count", BoundaryTest::shiftByZeroCounts);
        test("Promise 4", "NONE when a is no city", BoundaryTest::shiftRefusesNoCity);
        test("Promise 4", "or d is not -99 .. 99", BoundaryTest::shiftRefusesFarShifts);
    }

    /** The two halves of "NONE when a = b, or a or b is no city", which five promises have. */
    private static void noLink(String promise, String name, LinkCall call) {
        test(promise, "a = b", () -> dueRefusedWhenSame(name, call, NONE));
        test(promise, "or a or b is no city", () -> dueRefusedWhenNoCity(name, call, NONE));
    }

    private static void promises5To10() {
        noLink("Promise 5", "length", TourDesk::length);
        noLink("Promise 6", "rule", TourDesk::rule);
        test("Promise 7", "NONE when there is no allowed tour", BoundaryTest::bestWithoutTour);
        test("Promise 8", "the least in the dictionary order", BoundaryTest::leastInDictionaryOrder);
        test("Promise 8", "of the allowed tours with the cost best()", BoundaryTest::leastOfThoseWithTheCostBest);
        test("Promise 8", "NONE when there is no allowed tour", BoundaryTest::cityAtWithoutTour);
        test("Promise 8", "k is not 0 .. cities - 1", BoundaryTest::cityAtNoPlace);
        test("Promise 9", "NONE when there is none", BoundaryTest::bestWithNone);
        noLink("Promise 9", "bestWith", TourDesk::bestWith);
        test("Promise 10", "NONE when there is none", BoundaryTest::bestWithoutNone);
        noLink("Promise 10", "bestWithout", TourDesk::bestWithout);
    }

    private static void promises11And12() {
        test("Promise 11", "that some allowed tour of cost best() has", BoundaryTest::neighboursOfEveryBestTour);
        test("Promise 11", "0 when there is no allowed tour", BoundaryTest::neighboursWithoutTour);
        test("Promise 11", "or a is no city", BoundaryTest::neighboursOfNoCity);
        test("Promise 12", "so that some allowed tour of the then least cost still has that link",
            BoundaryTest::limitIsTheGreatest);
        test("Promise 12", "The greatest length (0 .. 99)", BoundaryTest::limitAtItsLeast);
        test("Promise 12", "The greatest length (0 .. 99)", BoundaryTest::limitAtItsGreatest);
        test("Promise 12", "NONE when there is no such length", BoundaryTest::limitWithNoSuchLength);
        test("Promise 12", "so also when no allowed tour has the link", BoundaryTest::limitWithNoTourThatHasTheLink);
        test("Promise 12", "A link that every allowed tour has could have the length 99",
            BoundaryTest::limitOfALinkOfEveryTour);
        noLink("Promise 12", "limit", TourDesk::limit);
    }

    public static void main(String[] args) {
        terms();
        promises1To4();
        promises5To10();
        promises11And12();
        String told = wrong == 0 ? "all answers are as due" : wrong + " answers are not as due";
        System.out.println(tests + " tests of sentences, " + told);
        if (wrong != 0) {
            System.exit(1);
        }
    }
}
