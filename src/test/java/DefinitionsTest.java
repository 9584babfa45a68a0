import java.util.ArrayList;
import java.util.List;
import java.util.TreeSet;

// Long runs of calls, each answer compared with one worked out straight from the words of the document's Terms.
public final class DefinitionsTest {
    private static final int RUNS = 240;
    private static final int CALLS = 512;
    private static int wrong = 0;

    // A fixed rule makes the calls, so that every run of the test is the same.
    private long seed = 1;
    private int literals = 10;
    private int longest = 4;

    private ConflictSets x;
    private final TreeSet<Integer> draft = new TreeSet<>();
    private final List<TreeSet<Integer>> conditions = new ArrayList<>();
    private final List<Integer> prices = new ArrayList<>();
    private boolean stale = true;
    private boolean[] possible;
    private final List<Integer> kernels = new ArrayList<>();
    private final List<Integer> corrections = new ArrayList<>();

    private int below(int bound) {
        seed = seed * 6364136223846793005L + 1442695040888963407L;
        return (int) ((seed >>> 33) % bound);
    }

    private static boolean in(int set, int member) {
        return set / (1 << member) % 2 == 1;
    }

    private static boolean part(int inner, int outer) {
        return (inner & ~outer) == 0;
    }

    private static boolean holds(TreeSet<Integer> condition, int values) {
        for (int literal : condition) {
            boolean variable = in(values, literal / 2);
            if (literal % 2 == 0 ? variable : !variable) {
                return true;
            }
        }
        return false;
    }

    private int leastModel(int set) {
        for (int values = 0; values < 32; values++) {
            boolean all = true;
            for (int i = 0; i < conditions.size(); i++) {
                all = all && (!in(set, i) || holds(conditions.get(i), values));
            }
            if (all) {
                return values;
            }
        }
        return -2;
    }

    private int sets() {
        return 1 << conditions.size();
    }

    private boolean kernelByDefinition(int set) {
        for (int inner = 0; inner < set; inner++) {
            if (part(inner, set) && !possible[inner]) {
                return false;
            }
        }
        return !possible[set];
    }

    private boolean greatestByDefinition(int set) {
        for (int outer = set + 1; outer < sets(); outer++) {
            if (part(set, outer) && possible[outer]) {
                return false;
            }
        }
        return possible[set];
    }

    private void workOut() {
        if (!stale) {
            return;
        }
        stale = false;
        possible = new boolean[sets()];
        for (int set = 0; set < sets(); set++) {
            possible[set] = leastModel(set) >= 0;
        }
        kernels.clear();
        corrections.clear();
        for (int set = 0; set < sets(); set++) {
            if (kernelByDefinition(set)) {
                kernels.add(set);
            }
            if (greatestByDefinition(sets() - 1 - set)) {
                corrections.add(set);
            }
        }
    }

    private int priceOf(int set) {
        int sum = 0;
        for (int i = 0; i < prices.size(); i++) {
            sum += in(set, i) ? prices.get(i) : 0;
        }
        return sum;
    }

    private int cheapest() {
        int least = Integer.MAX_VALUE;
        for (int set : corrections) {
            least = Math.min(least, priceOf(set));
        }
        return least;
    }

    private int cheapestSet() {
        for (int set : corrections) {
            if (priceOf(set) == cheapest()) {
                return set;
            }
        }
        return -99;
    }

    private int smallest() {
        int least = kernels.isEmpty() ? 0 : 10;
        for (int set : kernels) {
            least = Math.min(least, Integer.bitCount(set));
        }
        return least;
    }

    private int blame(int condition) {
        int found = 0;
        for (int set : kernels) {
            found += in(set, condition) ? 1 : 0;
        }
        return found;
    }

    private int core() {
        int all = 0;
        for (int i = 0; i < conditions.size(); i++) {
            all += blame(i) == kernels.size() ? 1 << i : 0;
        }
        return all;
    }

    private int width(int condition) {
        int found = 0;
        for (int values = 0; values < 32; values++) {
            found += holds(conditions.get(condition), values) ? 1 : 0;
        }
        return found;
    }

    private int literal(int literal) {
        if (literal < 0 || literal > 9) {
            return -1;
        }
        if (draft.size() == 4 && !draft.contains(literal)) {
            return -2;
        }
        draft.add(literal);
        return draft.size();
    }

    private int add() {
        if (draft.isEmpty()) {
            return -1;
        }
        if (conditions.size() == 9) {
            return -2;
        }
        conditions.add(new TreeSet<>(draft));
        prices.add(1);
        draft.clear();
        stale = true;
        return conditions.size() - 1;
    }

    private int clear() {
        int size = draft.size();
        draft.clear();
        return size;
    }

    private boolean good(int condition) {
        return condition >= 0 && condition < conditions.size();
    }

    private int remove(int condition) {
        if (!good(condition)) {
            return -1;
        }
        conditions.remove(condition);
        prices.remove(condition);
        stale = true;
        return conditions.size();
    }

    private int price(int condition, int price) {
        if (!good(condition)) {
            return -1;
        }
        return price < 1 || price > 20 ? -2 : prices.set(condition, price);
    }

    private int sort(int set) {
        return kernels.contains(set) ? 1 : corrections.contains(set) ? 2 : 0;
    }

    private static int at(List<Integer> list, int i) {
        return i >= 0 && i < list.size() ? list.get(i) : -1;
    }

    /** Mostly a number that is good or just beyond, now and then one that is far off. */
    private int number(int bound) {
        int[] far = {-1, -2, Integer.MIN_VALUE, Integer.MAX_VALUE, bound + 31, bound + 32, 512, -512};
        return below(16) == 0 ? far[below(far.length)] : below(bound + 1);
    }

    private void due(String call, int got, int want) {
        if (got != want) {
            wrong++;
            System.out.println(call + " with " + conditions + " at " + prices + " answered " + got + ", due is " + want);
        }
    }

    private void change() {
        int kind = below(24);
        int condition = number(conditions.size());
        if (kind == 0) {
            due("clear()", x.clear(), clear());
        } else if (kind == 1) {
            due("remove(" + condition + ")", x.remove(condition), remove(condition));
        } else if (kind < 7) {
            int price = below(3) == 0 ? below(24) - 1 : 1 + below(5);
            due("price(" + condition + ", " + price + ")", x.price(condition, price), price(condition, price));
        } else if (kind < (draft.size() >= longest ? 20 : 9)) {
            due("add()", x.add(), add());
        } else {
            int literal = below(8) == 0 ? number(10) : below(literals);
            due("literal(" + literal + ")", x.literal(literal), literal(literal));
        }
    }

    private void askOfSet(int kind) {
        int set = number(sets());
        boolean good = set >= 0 && set < sets();
        if (kind == 0) {
            due("possible(" + set + ")", x.possible(set), !good ? -1 : possible[set] ? 1 : 0);
        } else if (kind == 1) {
            due("model(" + set + ")", x.model(set), good ? leastModel(set) : -1);
        } else {
            // A set picked from all is seldom a kernel or a correction, so these are asked for often.
            List<Integer> list = below(2) == 0 ? kernels : corrections;
            int asked = below(3) > 0 && !list.isEmpty() ? list.get(below(list.size())) : set;
            due("sort(" + asked + ")", x.sort(asked), asked >= 0 && asked < sets() ? sort(asked) : -1);
        }
    }

    private void askOfNumber(int kind) {
        int i = number(kind == 0 ? kernels.size() : kind == 1 ? corrections.size() : conditions.size());
        if (kind == 0) {
            due("kernel(" + i + ")", x.kernel(i), at(kernels, i));
        } else if (kind == 1) {
            due("correction(" + i + ")", x.correction(i), at(corrections, i));
        } else if (kind == 2) {
            due("blame(" + i + ")", x.blame(i), good(i) ? blame(i) : -1);
        } else {
            due("width(" + i + ")", x.width(i), good(i) ? width(i) : -1);
        }
    }

    private void askOfAll(int kind) {
        switch (kind) {
            case 0 -> due("conditions()", x.conditions(), conditions.size());
            case 1 -> due("kernels()", x.kernels(), kernels.size());
            case 2 -> due("corrections()", x.corrections(), corrections.size());
            case 3 -> due("cheapest()", x.cheapest(), cheapest());
            case 4 -> due("cheapestSet()", x.cheapestSet(), cheapestSet());
            case 5 -> due("smallest()", x.smallest(), smallest());
            default -> due("core()", x.core(), core());
        }
    }

    private void ask() {
        workOut();
        int kind = below(14);
        if (kind < 3) {
            askOfSet(kind);
        } else if (kind < 7) {
            askOfNumber(kind - 3);
        } else {
            askOfAll(kind - 7);
        }
    }

    private void run(int number) {
        seed = number;
        x = new ConflictSets();
        // Few literals and short conditions make many kernels; the others make large ones and none.
        literals = 4 + 2 * (number % 4);
        longest = 1 + number / 4 % 4;
        for (int call = 0; call < CALLS; call++) {
            if (below(3) == 0) {
                change();
            } else {
                ask();
            }
        }
    }

    public static void main(String[] args) {
        for (int number = 0; number < RUNS && wrong < 20; number++) {
            new DefinitionsTest().run(number);
        }
        System.out.println(wrong == 0 ? "all answers are as due" : wrong + " answers are not as due");
        if (wrong != 0) {
            System.exit(1);
        }
    }
}
