/**
 * Which conditions contradict each other: least contradictory sets and least corrections.
 *
 * With five variables there are only 32 values of them, so a condition is kept as the int whose bit n
 * says whether it holds under values n; a set of conditions is then possible if its ints share a bit.
 */
public final class ConflictSets {
    private static final int LITERALS = 10;
    private static final int MOST_LITERALS = 4;
    private static final int MOST_CONDITIONS = 9;
    private static final int FIRST_PRICE = 1;
    private static final int LEAST_PRICE = 1;
    private static final int GREATEST_PRICE = 20;
    private static final int VALUES = 32;
    private static final int ALL_VALUES = -1;

    private final int[] tables = new int[MOST_CONDITIONS];
    private final int[] prices = new int[MOST_CONDITIONS];
    private int count;
    private int draft;

    public ConflictSets() {
        count = 0;
        draft = 0;
    }

    public int literal(int literal) {
        if (literal < 0 || literal >= LITERALS) {
            return -1;
        }
        int grown = draft | (1 << literal);
        int size = bits(grown);
        if (size > MOST_LITERALS) {
            return -2;
        }
        draft = grown;
        return size;
    }

    public int add() {
        if (draft == 0) {
            return -1;
        }
        if (count >= MOST_CONDITIONS) {
            return -2;
        }
        int number = count;
        tables[number] = tableOf(draft);
        prices[number] = FIRST_PRICE;
        count = number + 1;
        draft = 0;
        return number;
    }

    public int clear() {
        int size = bits(draft);
        draft = 0;
        return size;
    }

    public int remove(int condition) {
        if (!isCondition(condition)) {
            return -1;
        }
        for (int i = condition; i < count - 1; i++) {
            tables[i] = tables[i + 1];
            prices[i] = prices[i + 1];
        }
        count = count - 1;
        return count;
    }

    public int price(int condition, int price) {
        if (!isCondition(condition)) {
            return -1;
        }
        if (price < LEAST_PRICE || price > GREATEST_PRICE) {
            return -2;
        }
        int before = prices[condition];
        prices[condition] = price;
        return before;
    }

    public int conditions() {
        return count;
    }

    public int possible(int set) {
        if (!isSet(set)) {
            return -1;
        }
        return isPossible(set) ? 1 : 0;
    }

    public int model(int set) {
        if (!isSet(set)) {
            return -1;
        }
        int table = tableOfSet(set);
        for (int values = 0; values < VALUES; values++) {
            if (has(table, values)) {
                return values;
            }
        }
        return -2;
    }

    public int kernels() {
        int all = allConditions();
        int found = 0;
        for (int set = 0; set <= all; set++) {
            if (isKernel(set)) {
                found++;
            }
        }
        return found;
    }

    public int kernel(int i) {
        int all = allConditions();
        int found = 0;
        for (int set = 0; set <= all; set++) {
            if (isKernel(set)) {
                if (found == i) {
                    return set;
                }
                found++;
            }
        }
        return -1;
    }

    public int corrections() {
        int all = allConditions();
        int found = 0;
        for (int set = 0; set <= all; set++) {
            if (isCorrection(set)) {
                found++;
            }
        }
        return found;
    }

    public int correction(int i) {
        int all = allConditions();
        int found = 0;
        for (int set = 0; set <= all; set++) {
            if (isCorrection(set)) {
                if (found == i) {
                    return set;
                }
                found++;
            }
        }
        return -1;
    }

    public int cheapest() {
        int set = leastCheapCorrection();
        return priceOfSet(set);
    }

    public int cheapestSet() {
        return leastCheapCorrection();
    }

    public int smallest() {
        int all = allConditions();
        int least = 0;
        for (int set = 0; set <= all; set++) {
            if (isKernel(set)) {
                int size = bits(set);
                // No kernel is empty, so 0 can stand for none found yet.
                if (least == 0 || size < least) {
                    least = size;
                }
            }
        }
        return least;
    }

    public int blame(int condition) {
        if (!isCondition(condition)) {
            return -1;
        }
        int all = allConditions();
        int found = 0;
        for (int set = 0; set <= all; set++) {
            if (has(set, condition) && isKernel(set)) {
                found++;
            }
        }
        return found;
    }

    public int core() {
        int all = allConditions();
        int shared = all;
        for (int set = 0; set <= all; set++) {
            if (isKernel(set)) {
                shared = shared & set;
            }
        }
        return shared;
    }

    public int sort(int set) {
        if (!isSet(set)) {
            return -1;
        }
        if (isKernel(set)) {
            return 1;
        }
        return isCorrection(set) ? 2 : 0;
    }

    public int width(int condition) {
        if (!isCondition(condition)) {
            return -1;
        }
        return bits(tables[condition]);
    }

    private boolean isCondition(int condition) {
        return condition >= 0 && condition < count;
    }

    private boolean isSet(int set) {
        return set >= 0 && set <= allConditions();
    }

    private int allConditions() {
        return (1 << count) - 1;
    }

    private boolean isPossible(int set) {
        return tableOfSet(set) != 0;
    }

    /** A part of a possible set is possible, so only the parts with one member less need a look. */
    private boolean isKernel(int set) {
        if (isPossible(set)) {
            return false;
        }
        for (int i = 0; i < count; i++) {
            if (has(set, i) && !isPossible(set ^ (1 << i))) {
                return false;
            }
        }
        return true;
    }

    /** For the same reason only the sets with one member more than the kept one need a look. */
    private boolean isCorrection(int set) {
        int kept = allConditions() ^ set;
        if (!isPossible(kept)) {
            return false;
        }
        for (int i = 0; i < count; i++) {
            if (has(set, i) && isPossible(kept | (1 << i))) {
                return false;
            }
        }
        return true;
    }

    /**
     * The set of all conditions is dearer than every correction, unless it is itself the only one:
     * a condition alone is possible, so a correction leaves one out if there are any.
     */
    private int leastCheapCorrection() {
        int all = allConditions();
        int best = all;
        int bestPrice = priceOfSet(all);
        for (int set = 0; set < all; set++) {
            int setPrice = priceOfSet(set);
            if (setPrice < bestPrice && isCorrection(set)) {
                best = set;
                bestPrice = setPrice;
            }
        }
        return best;
    }

    private int priceOfSet(int set) {
        int sum = 0;
        for (int i = 0; i < count; i++) {
            if (has(set, i)) {
                sum += prices[i];
            }
        }
        return sum;
    }

    /** The values, one per bit, under which all members of the set hold. */
    private int tableOfSet(int set) {
        int table = ALL_VALUES;
        for (int i = 0; i < count; i++) {
            if (has(set, i)) {
                table = table & tables[i];
            }
        }
        return table;
    }

    /** The values, one per bit, under which at least one of the literals is true. */
    private static int tableOf(int literals) {
        int table = 0;
        for (int values = 0; values < VALUES; values++) {
            if ((literals & trueLiterals(values)) != 0) {
                table = table | (1 << values);
            }
        }
        return table;
    }

    private static int trueLiterals(int values) {
        int literals = 0;
        for (int literal = 0; literal < LITERALS; literal++) {
            boolean negated = (literal & 1) == 1;
            if (has(values, literal >> 1) != negated) {
                literals = literals | (1 << literal);
            }
        }
        return literals;
    }

    private static boolean has(int set, int member) {
        return ((set >>> member) & 1) == 1;
    }

    private static int bits(int set) {
        int found = 0;
        for (int i = 0; i < VALUES; i++) {
            if (has(set, i)) {
                found++;
            }
        }
        return found;
    }
}
