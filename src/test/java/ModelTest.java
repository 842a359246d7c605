import java.util.ArrayList;
import java.util.List;
import java.util.Random;

/**
 * Long runs of calls, each answer held against a model that reads the document word by word:
 * it lists all tours by recursion, and tries every length for limit. The seed is fixed, so every run is the same.
 */
public final class ModelTest {
    private static final int RUNS = 150;
    private static final int CALLS = 512;

    /** The desk of the document in its slowest form. */
    private static final class Model {
        private final int cities;
        private final int[][] lengths;
        private final int[][] rules;
        private final List<int[]> tours = new ArrayList<>();

        Model(int cities, int length) {
            this.cities = Math.max(3, Math.min(7, cities));
            int start = Math.max(0, Math.min(99, length));
            lengths = new int[this.cities][this.cities];
            rules = new int[this.cities][this.cities];
            for (int[] row : lengths) {
                java.util.Arrays.fill(row, start);
            }
            listTours(new int[this.cities], 1);
        }

        /** Lowest city first at every place, so that the list is in dictionary order. */
        private void listTours(int[] begun, int place) {
            if (place == cities) {
                tours.add(begun.clone());
                return;
            }
            for (int city = 1; city < cities; city++) {
                boolean used = false;
                for (int p = 1; p < place; p++) {
                    used |= begun[p] == city;
                }
                if (!used) {
                    begun[place] = city;
                    listTours(begun, place + 1);
                }
            }
        }

        private boolean city(int a) {
            return 0 <= a && a < cities;
        }

        private boolean link(int a, int b) {
            return city(a) && city(b) && a != b;
        }

        private boolean has(int[] tour, int a, int b) {
            for (int p = 0; p < cities; p++) {
                int from = tour[p];
                int to = tour[(p + 1) % cities];
                if (from == a && to == b || from == b && to == a) {
                    return true;
                }
            }
            return false;
        }

        private boolean allowed(int[] tour) {
            for (int a = 0; a < cities; a++) {
                for (int b = 0; b < a; b++) {
                    boolean has = has(tour, a, b);
                    if (rules[a][b] == 1 && !has || rules[a][b] == 2 && has) {
                        return false;
                    }
                }
            }
            return true;
        }

        private List<int[]> allowedTours() {
            List<int[]> found = new ArrayList<>();
            for (int[] tour : tours) {
                if (allowed(tour)) {
                    found.add(tour);
                }
            }
            return found;
        }

        private int cost(int[] tour) {
            int cost = lengths[tour[cities - 1]][0];
            for (int p = 1; p < cities; p++) {
                cost += lengths[tour[p - 1]][tour[p]];
            }
            return cost;
        }

        private int least(List<int[]> among) {
            int least = -1;
            for (int[] tour : among) {
                int cost = cost(tour);
                least = least == -1 ? cost : Math.min(least, cost);
            }
            return least;
        }

        private List<int[]> bestTours(List<int[]> among) {
            int least = least(among);
            List<int[]> found = new ArrayList<>();
            for (int[] tour : among) {
                if (cost(tour) == least) {
                    found.add(tour);
                }
            }
            return found;
        }

        private List<int[]> withLink(List<int[]> among, int a, int b, boolean wanted) {
            List<int[]> found = new ArrayList<>();
            for (int[] tour : among) {
                if (has(tour, a, b) == wanted) {
                    found.add(tour);
                }
            }
            return found;
        }

        int setLength(int a, int b, int d) {
            if (!link(a, b) || d < 0 || d > 99) {
                return 0;
            }
            lengths[a][b] = d;
            lengths[b][a] = d;
            return 1;
        }

        int setRule(int a, int b, int rule) {
            if (!link(a, b) || rule < 0 || rule > 2) {
                return 0;
            }
            rules[a][b] = rule;
            rules[b][a] = rule;
            return 1;
        }

        int shift(int a, int d) {
            if (!city(a) || d < -99 || d > 99) {
                return -1;
            }
            int changed = 0;
            for (int b = 0; b < cities; b++) {
                changed += b == a ? 0 : setLength(a, b, lengths[a][b] + d);
            }
            return changed;
        }

        int length(int a, int b) {
            return link(a, b) ? lengths[a][b] : -1;
        }

        int rule(int a, int b) {
            return link(a, b) ? rules[a][b] : -1;
        }

        int best() {
            return least(allowedTours());
        }

        int cityAt(int k) {
            List<int[]> best = bestTours(allowedTours());
            return best.isEmpty() || !city(k) ? -1 : best.get(0)[k];
        }

        int bestWhere(int a, int b, boolean wanted) {
            return link(a, b) ? least(withLink(allowedTours(), a, b, wanted)) : -1;
        }

        int neighbours(int a) {
            int found = 0;
            for (int[] tour : bestTours(allowedTours())) {
                for (int b = 0; b < cities; b++) {
                    if (link(a, b) && has(tour, a, b)) {
                        found |= 1 << b;
                    }
                }
            }
            return found;
        }

        int limit(int a, int b) {
            if (!link(a, b)) {
                return -1;
            }
            List<int[]> allowed = allowedTours();
            int kept = lengths[a][b];
            int found = -1;
            for (int d = 99; d >= 0 && found == -1; d--) {
                setLength(a, b, d);
                if (!withLink(bestTours(allowed), a, b, true).isEmpty()) {
                    found = d;
                }
            }
            setLength(a, b, kept);
            return found;
        }
    }

    private static final Random RANDOM = new Random(20261115L);
    private static int wrong = 0;

    private static int between(int low, int high) {
        return low + RANDOM.nextInt(high - low + 1);
    }

    /** Mostly a city, at times one just outside or far away. */
    private static int someCity(int cities) {
        int kind = between(0, 39);
        if (kind == 0) {
            return RANDOM.nextInt();
        }
        return kind == 1 ? between(-2, 9) : between(0, cities - 1);
    }

    private static int someOf(int low, int high) {
        int kind = between(0, 39);
        if (kind == 0) {
            return RANDOM.nextInt();
        }
        return kind == 1 ? between(low - 2, high + 2) : between(low, high);
    }

    /** FREE for the most part, since a few rules of the others already leave no allowed tour. */
    private static int someRule(int rulesPercent) {
        if (between(0, 99) >= rulesPercent) {
            return between(0, 19) == 0 ? between(-1, 3) : 0;
        }
        return between(0, 2) == 0 ? 1 : 2;
    }

    private static void run(int run) {
        int givenCities = between(0, 9) == 0 ? between(-3, 12) : between(3, 7);
        int greatest = new int[] {2, 9, 40, 99}[between(0, 3)];
        int givenLength = between(0, 9) == 0 ? between(-150, 250) : between(0, greatest);
        int rulesPercent = new int[] {0, 15, 40, 60}[between(0, 3)];
        TourDesk desk = new TourDesk(givenCities, givenLength);
        Model model = new Model(givenCities, givenLength);
        String made = "run " + run + ", new TourDesk(" + givenCities + ", " + givenLength + ")";
        for (int call = 0; call < CALLS; call++) {
            step(made + ", call " + call, desk, model, greatest, rulesPercent);
        }
    }

    private static void step(String where, TourDesk desk, Model model, int greatest, int rulesPercent) {
        int a = someCity(model.cities);
        int b = someCity(model.cities);
        int d = someOf(0, greatest);
        int rule = someRule(rulesPercent);
        int by = someOf(-greatest, greatest);
        switch (between(0, 16)) {
            case 0, 1, 2, 3 -> due(where, "setLength", a, b, d, desk.setLength(a, b, d) ? 1 : 0, model.setLength(a, b, d));
            case 4, 5, 6 -> due(where, "setRule", a, b, rule, desk.setRule(a, b, rule) ? 1 : 0, model.setRule(a, b, rule));
            case 7 -> due(where, "shift", a, by, 0, desk.shift(a, by), model.shift(a, by));
            case 8 -> due(where, "length", a, b, 0, desk.length(a, b), model.length(a, b));
            case 9 -> due(where, "rule", a, b, 0, desk.rule(a, b), model.rule(a, b));
            case 10 -> due(where, "best", 0, 0, 0, desk.best(), model.best());
            case 11, 12 -> due(where, "cityAt", a, 0, 0, desk.cityAt(a), model.cityAt(a));
            case 13 -> due(where, "bestWith", a, b, 0, desk.bestWith(a, b), model.bestWhere(a, b, true));
            case 14 -> due(where, "bestWithout", a, b, 0, desk.bestWithout(a, b), model.bestWhere(a, b, false));
            case 15 -> due(where, "neighbours", a, 0, 0, desk.neighbours(a), model.neighbours(a));
            default -> due(where, "limit", a, b, 0, desk.limit(a, b), model.limit(a, b));
        }
    }

    private static void due(String where, String call, int x, int y, int z, int got, int want) {
        if (got != want) {
            wrong++;
            if (wrong <= 20) {
                System.out.println(where + ": " + call + " of " + x + ", " + y + ", " + z
                    + " answered " + got + ", due is " + want);
            }
        }
    }

    public static void main(String[] args) {
        for (int run = 1; run <= RUNS; run++) {
            run(run);
        }
        System.out.println(wrong == 0 ? "all answers are as due" : wrong + " answers are not as due");
        if (wrong != 0) {
            System.exit(1);
        }
    }
}
