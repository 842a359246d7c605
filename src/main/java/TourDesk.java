/** A desk for shortest round trips over three to seven cities. */
public final class TourDesk {
    public static final int FREE = 0;
    public static final int REQUIRED = 1;
    public static final int BARRED = 2;
    public static final int NONE = -1;

    private static final int MIN_CITIES = 3;
    private static final int MAX_CITIES = 7;
    private static final int MAX_LENGTH = 99;
    private static final int LINK_SLOTS = 49; // MAX_CITIES * MAX_CITIES
    private static final int MAX_TOURS = 720; // city 0 stands first, the other six in any order

    private final int cityCount;
    private final int[] lengths = new int[LINK_SLOTS];

    // Sets of links, one bit for each slot. A link is in at most one of the two; a FREE link is in neither.
    private long requiredLinks = 0L;
    private long barredLinks = 0L;

    // Working space of leastCost; both are written anew by each search.
    private final int[] tour = new int[MAX_CITIES];
    private final int[] firstBestTour = new int[MAX_CITIES];

    public TourDesk(int cities, int length) {
        cityCount = clamp(cities, MIN_CITIES, MAX_CITIES);
        int startLength = clamp(length, 0, MAX_LENGTH);
        for (int slot = 0; slot < LINK_SLOTS; slot++) {
            lengths[slot] = startLength;
        }
    }

    public boolean setLength(int a, int b, int d) {
        if (!isLink(a, b) || !isLength(d)) {
            return false;
        }
        int slot = slotOf(a, b);
        lengths[slot] = d;
        return true;
    }

    public boolean setRule(int a, int b, int rule) {
        if (!isLink(a, b) || rule < FREE || rule > BARRED) {
            return false;
        }
        long link = 1L << slotOf(a, b);
        requiredLinks &= ~link;
        barredLinks &= ~link;
        if (rule == REQUIRED) {
            requiredLinks |= link;
        } else if (rule == BARRED) {
            barredLinks |= link;
        }
        return true;
    }

    public int shift(int a, int d) {
        if (!isCity(a) || d < -MAX_LENGTH || d > MAX_LENGTH) {
            return NONE;
        }
        int changed = 0;
        for (int b = 0; b < cityCount; b++) {
            if (b != a) {
                int slot = slotOf(a, b);
                int shifted = lengths[slot] + d;
                if (isLength(shifted)) {
                    lengths[slot] = shifted;
                    changed++;
                }
            }
        }
        return changed;
    }

    public int length(int a, int b) {
        if (!isLink(a, b)) {
            return NONE;
        }
        int slot = slotOf(a, b);
        return lengths[slot];
    }

    public int rule(int a, int b) {
        if (!isLink(a, b)) {
            return NONE;
        }
        long link = 1L << slotOf(a, b);
        if ((requiredLinks & link) != 0L) {
            return REQUIRED;
        }
        return (barredLinks & link) != 0L ? BARRED : FREE;
    }

    public int best() {
        return leastCost(requiredLinks, barredLinks);
    }

    public int cityAt(int k) {
        if (k < 0 || k >= cityCount) {
            return NONE;
        }
        int least = leastCost(requiredLinks, barredLinks);
        return least == NONE ? NONE : firstBestTour[k];
    }

    public int bestWith(int a, int b) {
        return isLink(a, b) ? leastCostWith(a, b) : NONE;
    }

    public int bestWithout(int a, int b) {
        return isLink(a, b) ? leastCostWithout(a, b) : NONE;
    }

    public int neighbours(int a) {
        if (!isCity(a)) {
            return 0;
        }
        int least = leastCost(requiredLinks, barredLinks);
        if (least == NONE) {
            return 0;
        }
        int found = 0;
        for (int b = 0; b < cityCount; b++) {
            if (b != a) {
                int leastWith = leastCostWith(a, b);
                if (leastWith == least) {
                    found |= 1 << b;
                }
            }
        }
        return found;
    }

    public int limit(int a, int b) {
        if (!isLink(a, b)) {
            return NONE;
        }
        int with = leastCostWith(a, b);
        if (with == NONE) {
            return NONE;
        }
        int without = leastCostWithout(a, b);
        if (without == NONE) {
            return MAX_LENGTH;
        }
        // Another length of this link leaves `without` as it is and moves every tour with the link by the same amount,
        // so the link is in a best tour as long as it and the rest of the tour cost no more than `without`.
        int slot = slotOf(a, b);
        int restOfTour = with - lengths[slot];
        int greatest = without - restOfTour;
        if (greatest < 0) {
            return NONE;
        }
        return greatest > MAX_LENGTH ? MAX_LENGTH : greatest;
    }

    private int leastCostWith(int a, int b) {
        long link = 1L << slotOf(a, b);
        return leastCost(requiredLinks | link, barredLinks);
    }

    private int leastCostWithout(int a, int b) {
        long link = 1L << slotOf(a, b);
        return leastCost(requiredLinks, barredLinks | link);
    }

    /**
     * The least cost of a tour that has all links of one set and none of the other; NONE when there is none.
     * Tours come in dictionary order, so keeping the first of equal cost leaves the least one in firstBestTour.
     */
    private int leastCost(long needed, long forbidden) {
        int least = NONE;
        boolean more = true;
        startTours();
        for (int count = 0; count < MAX_TOURS && more; count++) {
            long links = tourLinks();
            if ((links & needed) == needed && (links & forbidden) == 0L) {
                int cost = tourCost();
                if (least == NONE || cost < least) {
                    least = cost;
                    keepTour();
                }
            }
            more = nextTour();
        }
        return least;
    }

    private void startTours() {
        for (int place = 0; place < cityCount; place++) {
            tour[place] = place;
        }
    }

    /** Makes the tour the next one in dictionary order; false when it is the last one. */
    private boolean nextTour() {
        int rise = 0; // place 0 is never moved, so it can stand for "no rise"
        for (int place = 1; place < cityCount - 1; place++) {
            if (tour[place] < tour[place + 1]) {
                rise = place;
            }
        }
        if (rise == 0) {
            return false;
        }
        int higher = rise + 1;
        for (int place = rise + 1; place < cityCount; place++) {
            if (tour[place] > tour[rise]) {
                higher = place;
            }
        }
        swapPlaces(rise, higher);
        // What stands behind the rise falls from place to place; turned round it is the least order of those cities.
        int swaps = (cityCount - 1 - rise) / 2;
        for (int i = 0; i < swaps; i++) {
            swapPlaces(rise + 1 + i, cityCount - 1 - i);
        }
        return true;
    }

    private void swapPlaces(int i, int j) {
        int city = tour[i];
        tour[i] = tour[j];
        tour[j] = city;
    }

    private void keepTour() {
        for (int place = 0; place < cityCount; place++) {
            firstBestTour[place] = tour[place];
        }
    }

    private long tourLinks() {
        long links = 0L;
        int from = tour[cityCount - 1];
        for (int place = 0; place < cityCount; place++) {
            int to = tour[place];
            links |= 1L << slotOf(from, to);
            from = to;
        }
        return links;
    }

    private int tourCost() {
        int cost = 0;
        int from = tour[cityCount - 1];
        for (int place = 0; place < cityCount; place++) {
            int to = tour[place];
            int slot = slotOf(from, to);
            cost += lengths[slot];
            from = to;
        }
        return cost;
    }

    private boolean isCity(int a) {
        return a >= 0 && a < cityCount;
    }

    private boolean isLink(int a, int b) {
        return a != b && isCity(a) && isCity(b);
    }

    private static boolean isLength(int d) {
        return d >= 0 && d <= MAX_LENGTH;
    }

    /** Both directions of a link share one slot. */
    private static int slotOf(int a, int b) {
        return a < b ? a * MAX_CITIES + b : b * MAX_CITIES + a;
    }

    private static int clamp(int value, int low, int high) {
        if (value < low) {
            return low;
        }
        return value > high ? high : value;
    }
}
