// One group of checks for each promise of the document, worked out by hand; EdgesTest has the edges one by one.
public final class PromisesTest {
    private static final int[] NO_NUMBERS = {-1, Integer.MIN_VALUE, Integer.MAX_VALUE};
    private static int wrong = 0;

    private static void due(String what, int got, int want) {
        if (got != want) {
            wrong++;
            System.out.println(what + " answered " + got + ", due is " + want);
        }
    }

    private static void put(ConflictSets x, int... literals) {
        for (int literal : literals) {
            x.literal(literal);
        }
        x.add();
    }

    private static ConflictSets with(int[]... conditions) {
        ConflictSets x = new ConflictSets();
        for (int[] condition : conditions) {
            put(x, condition);
        }
        return x;
    }

    private static int[] c(int... literals) {
        return literals;
    }

    /** The conditions a; not a; not a or b; not b: kernels {0,1} and {0,2,3}. */
    private static ConflictSets twoKernels() {
        return with(c(0), c(1), c(1, 2), c(3));
    }

    private static void newObject() {
        ConflictSets x = new ConflictSets();
        due("1: conditions()", x.conditions(), 0);
        due("1: clear()", x.clear(), 0);
        due("1: add()", x.add(), -1);
        due("1: kernels()", x.kernels(), 0);
        due("1: corrections()", x.corrections(), 1);
        put(x, 0);
        due("1: another object", new ConflictSets().conditions(), 0);
    }

    private static void literal() {
        ConflictSets x = new ConflictSets();
        for (int bad : NO_NUMBERS) {
            due("2: literal(" + bad + ")", x.literal(bad), -1);
        }
        due("2: literal(10)", x.literal(10), -1);
        due("2: literal(32)", x.literal(32), -1);
        due("2: draft after refusals", x.clear(), 0);
        due("2: first", x.literal(9), 1);
        due("2: again", x.literal(9), 1);
        due("2: negation is another", x.literal(8), 2);
        due("2: third", x.literal(0), 3);
        due("2: bad with three", x.literal(10), -1);
        due("2: fourth", x.literal(5), 4);
        due("2: one of four again", x.literal(9), 4);
        due("2: one of four again", x.literal(0), 4);
        due("2: fifth", x.literal(4), -2);
        due("2: bad before full", x.literal(10), -1);
        due("2: bad before full", x.literal(-1), -1);
        due("2: draft after refusals", x.clear(), 4);
        for (int literal = 0; literal < 10; literal++) {
            due("2: literal(" + literal + ")", x.literal(literal), 1);
            due("2: clear()", x.clear(), 1);
        }
        // The fifth literal was refused, so it does not widen the condition.
        put(x, 0, 2, 4, 6, 8);
        due("2: width after a refused fifth", x.width(0), 30);
    }

    private static void add() {
        ConflictSets x = new ConflictSets();
        due("3: empty", x.add(), -1);
        for (int i = 0; i < 9; i++) {
            x.literal(i);
            due("3: number", x.add(), i);
            due("3: draft is empty", x.clear(), 0);
            due("3: conditions()", x.conditions(), i + 1);
        }
        due("3: empty before nine", x.add(), -1);
        x.literal(9);
        x.literal(0);
        due("3: nine", x.add(), -2);
        due("3: conditions()", x.conditions(), 9);
        due("3: draft is kept", x.literal(9), 2);
        due("3: one goes", x.remove(0), 8);
        due("3: kept draft goes in", x.add(), 8);
        due("3: its width", x.width(8), 24);
        due("3: draft is empty", x.add(), -1);
    }

    private static void priceOfAdded() {
        ConflictSets x = with(c(0), c(1));
        x.price(1, 7);
        x.remove(1);
        put(x, 2);
        due("3: price of an added one is 1 again", x.price(1, 5), 1);
    }

    private static void clear() {
        ConflictSets x = new ConflictSets();
        due("4: empty", x.clear(), 0);
        x.literal(3);
        x.literal(7);
        x.literal(3);
        due("4: two", x.clear(), 2);
        due("4: again", x.clear(), 0);
        due("4: add after clear", x.add(), -1);
        due("4: draft starts anew", x.literal(3), 1);
        x.add();
        due("4: after add", x.clear(), 0);
        due("4: conditions stay", x.conditions(), 1);
    }

    private static void remove() {
        ConflictSets x = new ConflictSets();
        due("5: none", x.remove(0), -1);
        x = with(c(0), c(1, 2), c(2, 4, 6), c(8, 9));
        x.price(0, 2);
        x.price(1, 3);
        x.price(2, 4);
        x.price(3, 5);
        x.literal(5);
        for (int bad : NO_NUMBERS) {
            due("5: remove(" + bad + ")", x.remove(bad), -1);
        }
        due("5: remove(4)", x.remove(4), -1);
        due("5: conditions()", x.conditions(), 4);
        due("5: middle", x.remove(1), 3);
        due("5: width before", x.width(0), 16);
        due("5: width moved", x.width(1), 28);
        due("5: width moved", x.width(2), 32);
        due("5: no third", x.width(3), -1);
        due("5: price before", x.price(0, 2), 2);
        due("5: price moved", x.price(1, 4), 4);
        due("5: price moved", x.price(2, 5), 5);
        due("5: last", x.remove(2), 2);
        due("5: no longer there", x.remove(2), -1);
        due("5: first", x.remove(0), 1);
        due("5: width moved", x.width(0), 28);
        due("5: the only one", x.remove(0), 0);
        due("5: none left", x.remove(0), -1);
        due("5: draft stays", x.clear(), 1);
    }

    private static void removeFromNine() {
        ConflictSets x = with(c(0), c(1), c(2), c(3), c(4), c(5), c(6), c(7), c(8, 0));
        due("5: from nine", x.remove(0), 8);
        due("5: last moved", x.width(7), 24);
        due("5: kernels()", x.kernels(), 3);
        due("5: kernel(0)", x.kernel(0), 6);
    }

    private static void price() {
        ConflictSets x = with(c(0), c(1));
        due("6: one at first", x.price(0, 20), 1);
        due("6: one before", x.price(0, 1), 20);
        due("6: one before", x.price(0, 13), 1);
        due("6: of the other", x.price(1, 13), 1);
        for (int bad : NO_NUMBERS) {
            due("6: price(" + bad + ", 1)", x.price(bad, 1), -1);
            due("6: price(" + bad + ", 0)", x.price(bad, 0), -1);
            due("6: price(0, " + bad + ")", x.price(0, bad), -2);
        }
        due("6: price(2, 1)", x.price(2, 1), -1);
        due("6: condition before price", x.price(2, 21), -1);
        due("6: price(0, 0)", x.price(0, 0), -2);
        due("6: price(0, 21)", x.price(0, 21), -2);
        due("6: refused changes nothing", x.price(0, 1), 13);
    }

    private static void conditions() {
        ConflictSets x = new ConflictSets();
        due("7: none", x.conditions(), 0);
        x.literal(0);
        due("7: a draft is none", x.conditions(), 0);
        x.add();
        put(x, 0);
        due("7: the same one twice", x.conditions(), 2);
        x.remove(0);
        due("7: after remove", x.conditions(), 1);
    }

    private static void possible() {
        ConflictSets x = twoKernels();
        int[] want = {1, 1, 1, 0, 1, 1, 1, 0, 1, 1, 1, 0, 1, 0, 1, 0};
        for (int set = 0; set < 16; set++) {
            due("8: possible(" + set + ")", x.possible(set), want[set]);
        }
        due("8: possible(16)", x.possible(16), -1);
        for (int bad : NO_NUMBERS) {
            due("8: possible(" + bad + ")", x.possible(bad), -1);
        }
        x = new ConflictSets();
        due("8: empty set", x.possible(0), 1);
        due("8: no such set", x.possible(1), -1);
        x = with(c(0), c(2), c(4), c(6), c(8), c(0), c(0), c(0), c(0));
        due("8: all of nine", x.possible(511), 1);
        due("8: one more than all of nine", x.possible(512), -1);
    }

    private static void model() {
        ConflictSets x = twoKernels();
        int[] want = {0, 1, 0, -2, 0, 3, 0, -2, 0, 1, 0, -2, 0, -2, 0, -2};
        for (int set = 0; set < 16; set++) {
            due("9: model(" + set + ")", x.model(set), want[set]);
        }
        due("9: model(16)", x.model(16), -1);
        for (int bad : NO_NUMBERS) {
            due("9: model(" + bad + ")", x.model(bad), -1);
        }
        due("9: no condition", new ConflictSets().model(0), 0);
        x = with(c(0), c(2), c(4), c(6), c(8), c(8, 6), c(7, 4, 3));
        due("9: all true", x.model(31), 31);
        due("9: the greatest bit alone", x.model(16), 16);
        due("9: the lesser of two", x.model(32), 8);
        due("9: no variable need be true", x.model(64), 0);
    }

    private static void kernels() {
        due("10: none", new ConflictSets().kernels(), 0);
        due("10: possible ones", with(c(0), c(2), c(0, 2)).kernels(), 0);
        due("10: two", twoKernels().kernels(), 2);
        due("10: twins", with(c(0), c(0), c(1), c(1)).kernels(), 4);
        due("10: one of four", with(c(0, 2), c(0, 3), c(1, 2), c(1, 3)).kernels(), 1);
        ConflictSets x = with(c(0), c(0), c(0), c(0), c(1), c(1), c(1), c(1), c(1));
        due("10: four by five", x.kernels(), 20);
    }

    private static void kernel() {
        ConflictSets x = twoKernels();
        due("11: kernel(0)", x.kernel(0), 3);
        due("11: kernel(1)", x.kernel(1), 13);
        due("11: kernel(2)", x.kernel(2), -1);
        for (int bad : NO_NUMBERS) {
            due("11: kernel(" + bad + ")", x.kernel(bad), -1);
        }
        due("11: none", new ConflictSets().kernel(0), -1);
        x = with(c(0), c(0), c(1), c(1));
        int[] want = {5, 6, 9, 10, -1};
        for (int i = 0; i < want.length; i++) {
            due("11: kernel(" + i + ") of twins", x.kernel(i), want[i]);
        }
        x = with(c(4), c(4), c(4), c(4), c(4), c(4), c(4), c(0), c(1));
        due("11: of the last two", x.kernel(0), 384);
        due("11: all conditions", with(c(0, 2), c(0, 3), c(1, 2), c(1, 3)).kernel(0), 15);
    }

    private static void corrections() {
        due("12: none", new ConflictSets().corrections(), 1);
        due("12: possible ones", with(c(0), c(2), c(0, 2)).corrections(), 1);
        due("12: two kernels", twoKernels().corrections(), 3);
        due("12: twins", with(c(0), c(0), c(1), c(1)).corrections(), 2);
        due("12: one of four", with(c(0, 2), c(0, 3), c(1, 2), c(1, 3)).corrections(), 4);
    }

    private static void correction() {
        ConflictSets x = twoKernels();
        int[] want = {1, 6, 10, -1};
        for (int i = 0; i < want.length; i++) {
            due("13: correction(" + i + ")", x.correction(i), want[i]);
        }
        for (int bad : NO_NUMBERS) {
            due("13: correction(" + bad + ")", x.correction(bad), -1);
        }
        due("13: none", new ConflictSets().correction(0), 0);
        due("13: none", new ConflictSets().correction(1), -1);
        due("13: possible ones", with(c(0), c(2)).correction(0), 0);
        due("13: possible ones", with(c(0), c(2)).correction(1), -1);
        x = with(c(0), c(0), c(1), c(1));
        due("13: twins", x.correction(0), 3);
        due("13: twins", x.correction(1), 12);
    }

    private static void cheapest() {
        due("14: none", new ConflictSets().cheapest(), 0);
        due("14: possible ones", with(c(0), c(2)).cheapest(), 0);
        ConflictSets x = twoKernels();
        due("14: all at one", x.cheapest(), 1);
        x.price(0, 20);
        due("14: the first is dear", x.cheapest(), 2);
        x.price(1, 20);
        due("14: the second too", x.cheapest(), 20);
        x.price(0, 3);
        x.price(1, 1);
        x.price(2, 5);
        x.price(3, 1);
        due("14: the last one", x.cheapest(), 2);
        x = with(c(0), c(0), c(0), c(0), c(1), c(1), c(1), c(1), c(1));
        for (int i = 0; i < 9; i++) {
            x.price(i, 20);
        }
        due("14: as dear as can be", x.cheapest(), 80);
    }

    private static void cheapestSet() {
        due("15: none", new ConflictSets().cheapestSet(), 0);
        due("15: possible ones", with(c(0), c(2)).cheapestSet(), 0);
        ConflictSets x = twoKernels();
        due("15: all at one", x.cheapestSet(), 1);
        x.price(0, 20);
        due("15: the lesser of two", x.cheapestSet(), 6);
        x.price(2, 2);
        due("15: the other is cheaper", x.cheapestSet(), 10);
        x.price(0, 2);
        due("15: the lesser of two", x.cheapestSet(), 1);
        x.price(0, 3);
        due("15: a greater number for less", x.cheapestSet(), 10);
        x.remove(0);
        due("15: nothing to correct", x.cheapestSet(), 0);
    }

    private static void smallest() {
        due("16: none", new ConflictSets().smallest(), 0);
        due("16: possible ones", with(c(0), c(2)).smallest(), 0);
        due("16: two and three", twoKernels().smallest(), 2);
        due("16: three and two", with(c(0), c(1, 2), c(3), c(1)).smallest(), 2);
        due("16: four", with(c(0, 2), c(0, 3), c(1, 2), c(1, 3)).smallest(), 4);
        due("16: five", with(c(0), c(1, 2), c(3, 4), c(5, 6), c(7)).smallest(), 5);
    }

    private static void blame() {
        ConflictSets x = twoKernels();
        int[] want = {2, 1, 1, 1};
        for (int i = 0; i < want.length; i++) {
            due("17: blame(" + i + ")", x.blame(i), want[i]);
        }
        put(x, 8);
        due("17: in none", x.blame(4), 0);
        due("17: blame(5)", x.blame(5), -1);
        for (int bad : NO_NUMBERS) {
            due("17: blame(" + bad + ")", x.blame(bad), -1);
        }
        due("17: no condition", new ConflictSets().blame(0), -1);
        x = with(c(0), c(1), c(1), c(1), c(1), c(1), c(1), c(1), c(1));
        due("17: all conditions are the kernel", with(c(0), c(1)).blame(1), 1);
        due("17: in eight", x.blame(0), 8);
        due("17: in one", x.blame(8), 1);
    }

    private static void core() {
        due("18: none", new ConflictSets().core(), 0);
        due("18: possible ones", with(c(0), c(2), c(4)).core(), 7);
        due("18: two kernels", twoKernels().core(), 1);
        due("18: twins", with(c(0), c(0), c(1), c(1)).core(), 0);
        due("18: one of four", with(c(8), c(0, 2), c(0, 3), c(1, 2), c(1, 3)).core(), 30);
        due("18: the last", with(c(0), c(0), c(1)).core(), 4);
    }

    private static void sort() {
        ConflictSets x = twoKernels();
        int[] want = {0, 2, 0, 1, 0, 0, 2, 0, 0, 0, 2, 0, 0, 1, 0, 0};
        for (int set = 0; set < 16; set++) {
            due("19: sort(" + set + ")", x.sort(set), want[set]);
        }
        due("19: sort(16)", x.sort(16), -1);
        for (int bad : NO_NUMBERS) {
            due("19: sort(" + bad + ")", x.sort(bad), -1);
        }
        due("19: no condition", new ConflictSets().sort(0), 2);
        due("19: no condition", new ConflictSets().sort(1), -1);
        due("19: possible ones", with(c(0), c(2)).sort(0), 2);
        due("19: possible ones", with(c(0), c(2)).sort(3), 0);
    }

    private static void width() {
        ConflictSets x = with(c(0), c(9), c(0, 2), c(1, 4, 7), c(0, 2, 4, 6), c(4, 5), c(0, 1, 2, 3), c(3, 5, 7, 9));
        int[] want = {16, 16, 24, 28, 30, 32, 32, 30};
        for (int i = 0; i < want.length; i++) {
            due("20: width(" + i + ")", x.width(i), want[i]);
        }
        due("20: width(8)", x.width(8), -1);
        for (int bad : NO_NUMBERS) {
            due("20: width(" + bad + ")", x.width(bad), -1);
        }
        due("20: no condition", new ConflictSets().width(0), -1);
    }

    public static void main(String[] args) {
        newObject();
        literal();
        add();
        priceOfAdded();
        clear();
        remove();
        removeFromNine();
        price();
        conditions();
        possible();
        model();
        kernels();
        kernel();
        corrections();
        correction();
        cheapest();
        cheapestSet();
        smallest();
        blame();
        core();
        sort();
        width();
        System.out.println(wrong == 0 ? "all answers are as due" : wrong + " answers are not as due");
        if (wrong != 0) {
            System.exit(1);
        }
    }
}
