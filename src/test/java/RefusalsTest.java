import java.util.ArrayList;
import java.util.List;
import java.util.TreeSet;

// Each kind of refused call and of question in seven states: the answer of a refusal, and that nothing is changed.
public final class RefusalsTest {
    /** The least and the greatest int, and numbers that a narrower type or a shift would turn into good ones. */
    private static final int[] FAR = {
        Integer.MIN_VALUE, Integer.MIN_VALUE + 1, -65536, -512, -256, -32, -2, -1,
        512, 513, 1024, 65536, 65537, 1 << 30, Integer.MAX_VALUE - 1, Integer.MAX_VALUE,
    };
    private static int wrong = 0;

    private interface Call {
        int on(ConflictSets x);
    }

    private final String name;
    private final int[][] conditions;
    private final int[] prices;
    private final int[] draft;
    private final int m;
    private final int sets;

    private RefusalsTest(String name, int[][] conditions, int[] prices, int... draft) {
        this.name = name;
        this.conditions = conditions;
        this.prices = prices;
        this.draft = draft;
        m = conditions.length;
        sets = 1 << m;
    }

    private ConflictSets made() {
        ConflictSets x = new ConflictSets();
        for (int[] condition : conditions) {
            for (int literal : condition) {
                x.literal(literal);
            }
            x.add();
        }
        for (int i = 0; i < m; i++) {
            x.price(i, prices[i]);
        }
        for (int literal : draft) {
            x.literal(literal);
        }
        return x;
    }

    private void fault(String what) {
        wrong++;
        System.out.println("with " + name + ": " + what);
    }

    private void due(String call, int got, int want) {
        if (got != want) {
            fault(call + " answered " + got + ", due is " + want);
        }
    }

    private static String answers(ConflictSets x) {
        List<Integer> all = new ArrayList<>();
        int m = x.conditions();
        all.add(m);
        all.add(x.kernels());
        all.add(x.corrections());
        all.add(x.cheapest());
        all.add(x.cheapestSet());
        all.add(x.smallest());
        all.add(x.core());
        all.add(x.possible((1 << m) - 1));
        for (int i = 0; i < m; i++) {
            all.add(x.width(i));
            all.add(x.blame(i));
            all.add(x.model(1 << i));
            all.add(x.sort(1 << i));
        }
        return all.toString();
    }

    private ConflictSets after(Call call) {
        ConflictSets x = made();
        call.on(x);
        return x;
    }

    private void pricesStay(String what, ConflictSets x) {
        due("conditions() after " + what, x.conditions(), m);
        for (int i = 0; i < m; i++) {
            due("price(" + i + ", 1) after " + what, x.price(i, 1), prices[i]);
        }
    }

    /** Two objects, for a literal put in to look at the draft would hide that the draft had lost it. */
    private void draftStays(String what, ConflictSets x, ConflictSets other) {
        for (int literal : draft) {
            due("literal(" + literal + ") of the draft after " + what, x.literal(literal), draft.length);
        }
        due("clear() after " + what, other.clear(), draft.length);
    }

    private void changesNothing(String what, Call call, String before) {
        ConflictSets x = after(call);
        String now = answers(x);
        if (!now.equals(before)) {
            fault(what + " changed the answers " + before + " to " + now);
        }
        pricesStay(what, x);
        draftStays(what, x, after(call));
    }

    private void refused(String what, int want, Call call) {
        due(what, call.on(made()), want);
        changesNothing(what, call, answers(made()));
    }

    /** All numbers of FAR, those just outside 0 .. bound - 1, and those that wrap to its last number. */
    private static TreeSet<Integer> outside(int bound) {
        TreeSet<Integer> numbers = new TreeSet<>();
        for (int far : FAR) {
            numbers.add(far);
        }
        for (int i : new int[] {bound, bound + 1, 32 + bound - 1, 256 + bound - 1, 65536 + bound - 1}) {
            numbers.add(i);
        }
        numbers.removeIf(number -> number >= 0 && number < bound);
        return numbers;
    }

    private boolean inDraft(int literal) {
        for (int one : draft) {
            if (one == literal) {
                return true;
            }
        }
        return false;
    }

    private void refusedLiterals() {
        for (int bad : outside(10)) {
            refused("literal(" + bad + ")", -1, x -> x.literal(bad));
        }
        for (int literal = 0; literal <= 9; literal++) {
            int one = literal;
            if (draft.length == 4 && !inDraft(one)) {
                refused("literal(" + one + ")", -2, x -> x.literal(one));
            }
        }
    }

    private void refusedAdd() {
        if (draft.length == 0) {
            refused("add()", -1, x -> x.add());
        } else if (m == 9) {
            refused("add()", -2, x -> x.add());
        }
    }

    private void refusedConditions() {
        for (int bad : outside(m)) {
            refused("remove(" + bad + ")", -1, x -> x.remove(bad));
            refused("blame(" + bad + ")", -1, x -> x.blame(bad));
            refused("width(" + bad + ")", -1, x -> x.width(bad));
            for (int price : new int[] {1, 20, 0, 21, Integer.MIN_VALUE, Integer.MAX_VALUE}) {
                refused("price(" + bad + ", " + price + ")", -1, x -> x.price(bad, price));
            }
        }
    }

    private void refusedPrices() {
        TreeSet<Integer> bad = outside(21);
        bad.add(0);
        for (int i = 0; i < m; i++) {
            int condition = i;
            for (int price : bad) {
                refused("price(" + i + ", " + price + ")", -2, x -> x.price(condition, price));
            }
        }
    }

    private void refusedSets() {
        for (int bad : outside(sets)) {
            refused("possible(" + bad + ")", -1, x -> x.possible(bad));
            refused("model(" + bad + ")", -1, x -> x.model(bad));
            refused("sort(" + bad + ")", -1, x -> x.sort(bad));
        }
    }

    private void refusedModels() {
        for (int set = 0; set < sets; set++) {
            int one = set;
            if (made().possible(set) == 0) {
                refused("model(" + set + ")", -2, x -> x.model(one));
            }
        }
    }

    private void refusedPlaces() {
        for (int bad : outside(made().kernels())) {
            refused("kernel(" + bad + ")", -1, x -> x.kernel(bad));
        }
        for (int bad : outside(made().corrections())) {
            refused("correction(" + bad + ")", -1, x -> x.correction(bad));
        }
    }

    private void questionsOfAll() {
        String before = answers(made());
        changesNothing("conditions()", x -> x.conditions(), before);
        changesNothing("kernels()", x -> x.kernels(), before);
        changesNothing("corrections()", x -> x.corrections(), before);
        changesNothing("cheapest()", x -> x.cheapest(), before);
        changesNothing("cheapestSet()", x -> x.cheapestSet(), before);
        changesNothing("smallest()", x -> x.smallest(), before);
        changesNothing("core()", x -> x.core(), before);
    }

    private void questionsOfNumbers() {
        String before = answers(made());
        for (int i = 0; i < 9; i++) {
            int one = i;
            changesNothing("kernel(" + i + ")", x -> x.kernel(one), before);
            changesNothing("correction(" + i + ")", x -> x.correction(one), before);
            changesNothing("blame(" + i + ")", x -> x.blame(one), before);
            changesNothing("width(" + i + ")", x -> x.width(one), before);
        }
        for (int set = 0; set < sets; set += 1 + set / 8) {
            int one = set;
            changesNothing("possible(" + set + ")", x -> x.possible(one), before);
            changesNothing("model(" + set + ")", x -> x.model(one), before);
            changesNothing("sort(" + set + ")", x -> x.sort(one), before);
        }
    }

    private void draftIsNoCondition() {
        ConflictSets bare = made();
        bare.clear();
        if (!answers(bare).equals(answers(made()))) {
            fault("the draft is seen in the answers");
        }
    }

    private void all() {
        pricesStay("being made", made());
        draftStays("being made", made(), made());
        refusedLiterals();
        refusedAdd();
        refusedConditions();
        refusedPrices();
        refusedSets();
        refusedModels();
        refusedPlaces();
        questionsOfAll();
        questionsOfNumbers();
        draftIsNoCondition();
    }

    public static void main(String[] args) {
        int[][] none = {};
        int[][] one = {{8}};
        int[][] four = {{0}, {1}, {1, 2}, {3}};
        int[][] eight = {{0}, {1, 2}, {3, 4}, {5, 6}, {7}, {8, 9}, {1, 9}, {0, 2, 4, 6}};
        int[][] nine = {{0}, {1, 2}, {3, 4}, {5, 6}, {7}, {8}, {9}, {0, 2, 4, 6}, {8, 9}};
        int[] high = {20, 19, 18, 17, 16, 15, 14, 13, 12};
        int[] mixed = {3, 1, 20, 2, 5, 8, 13, 1, 7};
        new RefusalsTest("no condition and an empty draft", none, high).all();
        new RefusalsTest("no condition and a full draft", none, high, 0, 3, 6, 9).all();
        new RefusalsTest("one condition and a draft of one", one, high, 9).all();
        new RefusalsTest("four conditions and a draft of three", four, mixed, 9, 8, 1).all();
        new RefusalsTest("eight conditions and a full draft", eight, high, 1, 3, 5, 7).all();
        new RefusalsTest("nine conditions and an empty draft", nine, mixed).all();
        new RefusalsTest("nine conditions and a full draft", nine, high, 0, 2, 4, 9).all();
        System.out.println(wrong == 0 ? "all answers are as due" : wrong + " answers are not as due");
        if (wrong != 0) {
            System.exit(1);
        }
    }
}
