// One method for each sentence of the document that names a boundary case; the sentence is printed with a wrong answer.
public final class EdgesTest {
    private static final int LEAST = Integer.MIN_VALUE;
    private static final int GREATEST = Integer.MAX_VALUE;
    private static int wrong = 0;
    private static String sentence = "";

    private static void says(String words) {
        sentence = words;
    }

    private static void due(String call, int got, int want) {
        if (got != want) {
            wrong++;
            System.out.println("\"" + sentence + "\": " + call + " answered " + got + ", due is " + want);
        }
    }

    private static int[] c(int... literals) {
        return literals;
    }

    private static void draft(ConflictSets x, int... literals) {
        for (int literal : literals) {
            x.literal(literal);
        }
    }

    private static ConflictSets with(int[]... conditions) {
        ConflictSets x = new ConflictSets();
        for (int[] condition : conditions) {
            draft(x, condition);
            x.add();
        }
        return x;
    }

    /** Condition i has literal i alone, so 0 and 1, 2 and 3, 4 and 5, 6 and 7 contradict each other. */
    private static ConflictSets units(int m) {
        ConflictSets x = new ConflictSets();
        for (int i = 0; i < m; i++) {
            x.literal(i);
            x.add();
        }
        return x;
    }

    /** Nine conditions of one literal each that all hold if every variable is true. */
    private static ConflictSets nineTogether() {
        return with(c(0), c(2), c(4), c(6), c(8), c(8), c(6), c(4), c(2));
    }

    /** The conditions a; not a; not a or b; not b: kernels 3 and 13, corrections 1, 6 and 10. */
    private static ConflictSets twoKernels() {
        return with(c(0), c(1), c(1, 2), c(3));
    }

    /** All eight signs of three variables, the first split by a fourth: only all nine contradict each other. */
    private static ConflictSets kernelOfNine() {
        return with(c(0, 2, 4, 6), c(0, 2, 4, 7), c(0, 2, 5), c(0, 3, 4), c(0, 3, 5),
            c(1, 2, 4), c(1, 2, 5), c(1, 3, 4), c(1, 3, 5));
    }

    /** Condition 0 against the eight others: kernels of two, corrections 1 and 510. */
    private static ConflictSets oneAgainstEight() {
        return with(c(0), c(1), c(1), c(1), c(1), c(1), c(1), c(1), c(1));
    }

    // What it is

    private static void calls() {
        says("An object is used for at most 512 calls after it has been made");
        ConflictSets x = new ConflictSets();
        for (int i = 0; i < 170; i++) {
            due("literal(9), call " + (3 * i + 1), x.literal(9), 1);
            due("add(), call " + (3 * i + 2), x.add(), 0);
            due("remove(0), call " + (3 * i + 3), x.remove(0), 0);
        }
        due("literal(0), call 511", x.literal(0), 1);
        due("add(), call 512", x.add(), 0);
        x = units(9);
        for (int call = 19; call <= 512; call++) {
            due("corrections(), call " + call, x.corrections(), 16);
        }
        x = new ConflictSets();
        for (int call = 1; call <= 512; call++) {
            due("literal, call " + call, x.literal((call - 1) % 4), call < 4 ? call : 4);
        }
    }

    // Terms

    private static void variables() {
        says("There are five VARIABLES, 0 .. 4, each true or false.");
        for (int v = 0; v <= 4; v++) {
            ConflictSets x = with(c(2 * v), c(2 * v + 1));
            due("model(1) for variable " + v, x.model(1), 1 << v);
            due("model(2) for variable " + v, x.model(2), 0);
            due("possible(3) for variable " + v, x.possible(3), 0);
        }
        ConflictSets x = with(c(0), c(2), c(4), c(6), c(8));
        due("model(31), all true", x.model(31), 31);
        x = with(c(1), c(3), c(5), c(7), c(9));
        due("model(31), all false", x.model(31), 0);
    }

    private static void literals() {
        says("it is written as 2 * variable for the variable and 2 * variable + 1 for its negation, 0 .. 9");
        ConflictSets x = new ConflictSets();
        due("literal(-1)", x.literal(-1), -1);
        due("literal(0)", x.literal(0), 1);
        due("literal(9)", x.literal(9), 2);
        due("literal(10)", x.literal(10), -1);
        for (int a = 0; a <= 9; a++) {
            for (int b = 0; b <= 9; b++) {
                boolean against = a / 2 == b / 2 && a != b;
                due("possible(3) for " + a + " and " + b, with(c(a), c(b)).possible(3), against ? 0 : 1);
            }
        }
    }

    private static void atMostNine() {
        says("There is a list of at most 9 CONDITIONS, numbered 0, 1, 2, .. in their order");
        ConflictSets x = units(8);
        x.literal(8);
        due("add() of the ninth", x.add(), 8);
        due("conditions()", x.conditions(), 9);
        x.literal(9);
        due("add() of a tenth", x.add(), -2);
        due("conditions()", x.conditions(), 9);
        due("model(1) of the first", x.model(1), 1);
        due("model(256) of the ninth", x.model(256), 16);
    }

    private static void oneToFourLiterals() {
        says("a condition has one to four literals");
        ConflictSets x = new ConflictSets();
        due("add() with none", x.add(), -1);
        x.literal(0);
        due("add() with one", x.add(), 0);
        draft(x, 0, 2, 4);
        due("literal(6), the fourth", x.literal(6), 4);
        due("literal(8), a fifth", x.literal(8), -2);
        due("add() with four", x.add(), 1);
        due("width(0)", x.width(0), 16);
        due("width(1)", x.width(1), 30);
    }

    private static void holds() {
        says("holds under some values of the variables if at least one of its literals is true");
        ConflictSets x = with(c(0, 2, 4, 6), c(1), c(3), c(5), c(7));
        due("possible(31), none is true", x.possible(31), 0);
        due("model(29), the first alone is true", x.model(29), 1);
        due("model(27), the second alone is true", x.model(27), 2);
        due("model(23), the third alone is true", x.model(23), 4);
        due("model(15), the last alone is true", x.model(15), 8);
        due("model(30), the four others", x.model(30), 0);
        x = with(c(8, 9), c(8), c(9));
        due("possible(3), a literal and its negation", x.possible(3), 1);
        due("possible(5), a literal and its negation", x.possible(5), 1);
    }

    private static void sumOfPowers() {
        says("A set of conditions is written as the sum of 2^i over its members.");
        ConflictSets x = with(c(0), c(2), c(4), c(6), c(8), c(1), c(3), c(5), c(7));
        for (int i = 0; i < 9; i++) {
            due("model(" + (1 << i) + ")", x.model(1 << i), i < 5 ? 1 << i : 0);
        }
        for (int i = 0; i < 4; i++) {
            due("kernel(" + i + ")", x.kernel(i), 33 << i);
        }
    }

    private static void emptySet() {
        says("(the empty set is)");
        due("possible(0), no condition", new ConflictSets().possible(0), 1);
        due("possible(0), one condition", units(1).possible(0), 1);
        due("possible(0), two that contradict", units(2).possible(0), 1);
        due("possible(0), nine", units(9).possible(0), 1);
        due("model(0), nine", units(9).model(0), 0);
    }

    private static void leastContradiction() {
        says("A set is a KERNEL if it is not possible but every proper part of it is possible.");
        ConflictSets x = with(c(0), c(1), c(2), c(3));
        due("sort(3)", x.sort(3), 1);
        due("sort(7), one too many", x.sort(7), 0);
        due("sort(15), two kernels together", x.sort(15), 0);
        due("sort(1), a single one", x.sort(1), 0);
        due("sort(0), the empty set", x.sort(0), 0);
        due("kernels()", x.kernels(), 2);
        due("kernels(), of nine members", kernelOfNine().kernels(), 1);
        due("sort(511), of nine members", kernelOfNine().sort(511), 1);
    }

    private static void greatestPossible() {
        says("A set is a GREATEST POSSIBLE SET if it is possible and is a proper part of no possible set.");
        ConflictSets x = twoKernels();
        due("sort(1), outside 14 which is greatest", x.sort(1), 2);
        due("sort(11), outside 4 which is part of 14", x.sort(11), 0);
        due("sort(2), outside 13 which is not possible", x.sort(2), 0);
        due("sort(15), outside the empty set", x.sort(15), 0);
        due("sort(0), outside all of one", units(1).sort(0), 2);
        due("sort(1), outside the empty set", units(1).sort(1), 0);
    }

    private static void priceAtFirst() {
        says("Every condition has a PRICE 1 .. 20, 1 at first");
        ConflictSets x = units(9);
        for (int i = 0; i < 9; i++) {
            due("price(" + i + ", 20)", x.price(i, 20), 1);
            due("price(" + i + ", 1)", x.price(i, 1), 20);
        }
        due("price(0, 0)", x.price(0, 0), -2);
        due("price(8, 21)", x.price(8, 21), -2);
        x.price(8, 20);
        x.remove(8);
        x.literal(0);
        x.add();
        due("price(8, 1), a new one in the place of one at 20", x.price(8, 1), 1);
    }

    private static void priceOfSet() {
        says("the price of a set is the sum of its members' prices");
        due("cheapest(), the empty set", new ConflictSets().cheapest(), 0);
        ConflictSets x = with(c(0), c(0), c(0), c(0), c(1), c(1), c(1), c(1), c(1));
        for (int i = 0; i < 9; i++) {
            x.price(i, 20);
        }
        due("cheapest(), four at 20", x.cheapest(), 80);
        x.price(4, 1);
        x.price(8, 18);
        due("cheapest(), 1 and 20 and 20 and 20 and 18", x.cheapest(), 79);
    }

    private static void goodCondition() {
        says("a condition is good if there is such a condition");
        for (int m = 0; m <= 9; m++) {
            ConflictSets x = units(m);
            for (int bad : c(LEAST, -1, m, m + 1, GREATEST)) {
                String of = "(" + bad + ") of " + m;
                due("price" + of, x.price(bad, 1), -1);
                due("blame" + of, x.blame(bad), -1);
                due("width" + of, x.width(bad), -1);
                due("remove" + of, x.remove(bad), -1);
            }
            for (int i = 0; i < m; i++) {
                due("price(" + i + ") of " + m, x.price(i, 1), 1);
                due("blame(" + i + ") of " + m, x.blame(i), (i ^ 1) < m ? 1 : 0);
                due("width(" + i + ") of " + m, x.width(i), 16);
            }
            if (m > 0) {
                due("remove(" + (m - 1) + ") of " + m, x.remove(m - 1), m - 1);
                due("width(" + (m - 1) + ") after it went", x.width(m - 1), -1);
            }
        }
    }

    private static void goodSet() {
        says("a set if it is 0 .. 2^m - 1 for m conditions");
        for (int m = 0; m <= 9; m++) {
            ConflictSets x = units(m);
            int all = (1 << m) - 1;
            for (int bad : c(LEAST, -1 - all, -1, all + 1, all + 2, 2 * all + 2, GREATEST)) {
                String of = "(" + bad + ") of " + m;
                due("possible" + of, x.possible(bad), -1);
                due("model" + of, x.model(bad), -1);
                due("sort" + of, x.sort(bad), -1);
            }
            String of = "(" + all + ") of " + m;
            due("possible" + of, x.possible(all), m < 2 ? 1 : 0);
            due("model" + of, x.model(all), m < 2 ? m : -2);
            due("sort" + of, x.sort(all), m == 0 ? 2 : m == 2 ? 1 : 0);
            due("possible(0) of " + m, x.possible(0), 1);
            due("model(0) of " + m, x.model(0), 0);
            due("sort(0) of " + m, x.sort(0), m < 2 ? 2 : 0);
        }
    }

    private static void goodSetAfterRemove() {
        says("a set if it is 0 .. 2^m - 1 for m conditions");
        ConflictSets x = units(9);
        for (int m = 8; m >= 0; m--) {
            x.remove(m);
            due("possible(" + (1 << m) + ") with " + m + " left", x.possible(1 << m), -1);
            due("model(" + (1 << m) + ") with " + m + " left", x.model(1 << m), -1);
            due("sort(" + (1 << m) + ") with " + m + " left", x.sort(1 << m), -1);
        }
    }

    // Promises

    private static void newObject() {
        says("1: No conditions.");
        ConflictSets x = new ConflictSets();
        due("conditions()", x.conditions(), 0);
        due("remove(0)", x.remove(0), -1);
        due("price(0, 1)", x.price(0, 1), -1);
        due("width(0)", x.width(0), -1);
        due("blame(0)", x.blame(0), -1);
        due("possible(1)", x.possible(1), -1);
        due("kernels()", x.kernels(), 0);
        due("kernel(0)", x.kernel(0), -1);
        due("corrections()", x.corrections(), 1);
        due("correction(0)", x.correction(0), 0);
        due("correction(1)", x.correction(1), -1);
        due("cheapest()", x.cheapest(), 0);
        due("cheapestSet()", x.cheapestSet(), 0);
        due("smallest()", x.smallest(), 0);
        due("core()", x.core(), 0);
        due("sort(0)", x.sort(0), 2);
        due("model(0)", x.model(0), 0);
    }

    private static void draftAtFirst() {
        says("2: Puts a literal into the draft of a condition (empty at first).");
        due("clear()", new ConflictSets().clear(), 0);
        due("add()", new ConflictSets().add(), -1);
        for (int literal = 0; literal <= 9; literal++) {
            ConflictSets x = new ConflictSets();
            due("literal(" + literal + ")", x.literal(literal), 1);
            due("clear()", x.clear(), 1);
        }
    }

    private static void literalOutside() {
        says("2: -1 if literal is not in 0 .. 9");
        ConflictSets x = new ConflictSets();
        for (int bad : c(LEAST, LEAST + 1, -65536, -256, -32, -10, -2, -1, 10, 11, 31, 32, 33, 41, 64, 256, 265, 65536,
            GREATEST - 1, GREATEST)) {
            due("literal(" + bad + ")", x.literal(bad), -1);
            due("clear()", x.clear(), 0);
        }
    }

    private static void literalIntoFull() {
        says("2: -2 if the draft has 4 literals and this one is not among them");
        for (int other = 0; other <= 9; other++) {
            ConflictSets x = new ConflictSets();
            draft(x, 0, 3, 6, 9);
            boolean among = other % 3 == 0;
            due("literal(" + other + ")", x.literal(other), among ? 4 : -2);
            due("clear()", x.clear(), 4);
        }
        ConflictSets x = new ConflictSets();
        draft(x, 0, 3, 6);
        due("literal(3) with three", x.literal(3), 3);
        due("literal(9) with three", x.literal(9), 4);
        due("literal(8) with four", x.literal(8), -2);
        due("literal(8) again", x.literal(8), -2);
        // Nine conditions have no bearing on the draft.
        x = units(9);
        due("literal(9) with nine conditions", x.literal(9), 1);
    }

    private static void literalOutsideBeforeFull() {
        says("2: In every method the tests are made in the order named");
        ConflictSets x = new ConflictSets();
        draft(x, 0, 3, 6, 9);
        for (int bad : c(LEAST, -1, 10, GREATEST)) {
            due("literal(" + bad + ") with four", x.literal(bad), -1);
        }
    }

    private static void differentLiterals() {
        says("2: otherwise answers how many different literals it has");
        ConflictSets x = new ConflictSets();
        int[] put = {9, 9, 8, 9, 8, 0, 0, 5, 5, 9, 0, 8};
        int[] want = {1, 1, 2, 2, 2, 3, 3, 4, 4, 4, 4, 4};
        for (int i = 0; i < put.length; i++) {
            due("literal(" + put[i] + "), call " + (i + 1), x.literal(put[i]), want[i]);
        }
    }

    private static void addEmpties() {
        says("3: The draft becomes a condition at the end of the list; the draft becomes empty.");
        ConflictSets x = new ConflictSets();
        draft(x, 0, 2, 4, 6);
        due("add()", x.add(), 0);
        due("clear()", x.clear(), 0);
        due("literal(0)", x.literal(0), 1);
        due("add()", x.add(), 1);
        due("width(0)", x.width(0), 30);
        due("width(1)", x.width(1), 16);
    }

    private static void addEmpty() {
        says("3: -1 if it is empty");
        ConflictSets x = new ConflictSets();
        due("add() at first", x.add(), -1);
        due("conditions()", x.conditions(), 0);
        x.literal(4);
        x.clear();
        due("add() after clear", x.add(), -1);
        x.literal(10);
        due("add() after a refused literal", x.add(), -1);
        x = units(8);
        due("add() with eight", x.add(), -1);
        due("conditions()", x.conditions(), 8);
    }

    private static void addToNine() {
        says("3: -2 if there are 9 conditions");
        ConflictSets x = units(9);
        draft(x, 1, 2, 3, 4);
        due("add() of four literals", x.add(), -2);
        due("add() again", x.add(), -2);
        due("conditions()", x.conditions(), 9);
        due("clear()", x.clear(), 4);
        x.literal(9);
        due("add() of one literal", x.add(), -2);
        due("remove(8)", x.remove(8), 8);
        due("add() with eight", x.add(), 8);
        due("model(257), the draft was kept", x.model(257), 1);
        due("blame(8), the draft was kept", x.blame(8), 0);
        x.literal(8);
        due("add() with nine again", x.add(), -2);
    }

    private static void addEmptyBeforeNine() {
        says("3: In every method the tests are made in the order named");
        ConflictSets x = units(9);
        due("add(), empty and nine", x.add(), -1);
        due("conditions()", x.conditions(), 9);
    }

    private static void addNumber() {
        says("3: otherwise answers its number");
        ConflictSets x = new ConflictSets();
        for (int i = 0; i < 9; i++) {
            x.literal(0);
            due("add()", x.add(), i);
        }
        x.remove(0);
        x.remove(0);
        x.literal(0);
        due("add() after two went", x.add(), 7);
    }

    private static void clearing() {
        says("4: The draft becomes empty; answers how many literals it had.");
        for (int size = 0; size <= 4; size++) {
            ConflictSets x = new ConflictSets();
            for (int literal = 0; literal < size; literal++) {
                x.literal(9 - literal);
            }
            due("clear() of " + size, x.clear(), size);
            due("clear() again", x.clear(), 0);
            due("add()", x.add(), -1);
            due("literal(9)", x.literal(9), 1);
        }
        ConflictSets x = new ConflictSets();
        draft(x, 0, 2, 4, 6, 8);
        due("clear() after a refused fifth", x.clear(), 4);
        draft(x, 7, 7, 7);
        due("clear() of one put three times", x.clear(), 1);
        x = units(9);
        due("clear() with nine", x.clear(), 0);
        due("conditions()", x.conditions(), 9);
    }

    private static void laterOnesMove() {
        says("5: Takes a condition out; later ones get numbers less by one.");
        for (int gone = 0; gone < 9; gone++) {
            ConflictSets x = with(c(0), c(0, 2), c(0, 2, 4), c(0, 2, 4, 6), c(0, 1),
                c(9), c(9, 7), c(9, 7, 5), c(9, 7, 5, 3));
            int[] widths = {16, 24, 28, 30, 32, 16, 24, 28, 30};
            int[] models = {1, 1, 1, 1, 0, 0, 0, 0, 0};
            for (int i = 0; i < 9; i++) {
                x.price(i, 11 + i);
            }
            due("remove(" + gone + ")", x.remove(gone), 8);
            for (int i = 0; i < 8; i++) {
                int was = i < gone ? i : i + 1;
                due("width(" + i + ") without " + gone, x.width(i), widths[was]);
                due("model(" + (1 << i) + ") without " + gone, x.model(1 << i), models[was]);
                due("price(" + i + ") without " + gone, x.price(i, 1), 11 + was);
            }
            due("width(8) without " + gone, x.width(8), -1);
        }
    }

    private static void removeNotGood() {
        says("5: -1 if condition is not good");
        due("remove(0) of none", new ConflictSets().remove(0), -1);
        ConflictSets x = units(9);
        for (int bad : c(LEAST, LEAST + 1, -256, -9, -1, 9, 10, 32, 256, 65536, GREATEST - 1, GREATEST)) {
            due("remove(" + bad + ")", x.remove(bad), -1);
            due("conditions()", x.conditions(), 9);
        }
        x = units(1);
        due("remove(1) of one", x.remove(1), -1);
        due("remove(0) of one", x.remove(0), 0);
        due("remove(0) of none", x.remove(0), -1);
    }

    private static void howManyLeft() {
        says("5: otherwise answers how many are left");
        ConflictSets x = units(9);
        for (int left = 8; left >= 0; left--) {
            due("remove(0)", x.remove(0), left);
            due("conditions()", x.conditions(), left);
        }
        due("corrections() after all went", x.corrections(), 1);
        due("core() after all went", x.core(), 0);
        due("smallest() after all went", x.smallest(), 0);
        due("cheapest() after all went", x.cheapest(), 0);
    }

    private static void priceNotGood() {
        says("6: -1 if condition is not good");
        due("price(0, 1) of none", new ConflictSets().price(0, 1), -1);
        ConflictSets x = units(9);
        for (int bad : c(LEAST, -256, -1, 9, 10, 256, 65536, GREATEST)) {
            due("price(" + bad + ", 5)", x.price(bad, 5), -1);
        }
        for (int i = 0; i < 9; i++) {
            due("price(" + i + ", 1)", x.price(i, 1), 1);
        }
    }

    private static void priceOutside() {
        says("6: -2 if price is not in 1 .. 20");
        ConflictSets x = units(9);
        x.price(8, 13);
        for (int bad : c(LEAST, LEAST + 1, -255, -20, -1, 0, 21, 22, 257, 65537, GREATEST - 1, GREATEST)) {
            due("price(8, " + bad + ")", x.price(8, bad), -2);
            due("price(8, 13)", x.price(8, 13), 13);
        }
        for (int price = 1; price <= 20; price++) {
            due("price(0, " + price + ")", x.price(0, price), price == 1 ? 1 : price - 1);
        }
    }

    private static void priceNotGoodBeforeOutside() {
        says("6: In every method the tests are made in the order named");
        ConflictSets x = units(2);
        for (int bad : c(LEAST, -1, 2, GREATEST)) {
            for (int price : c(LEAST, 0, 21, GREATEST)) {
                due("price(" + bad + ", " + price + ")", x.price(bad, price), -1);
            }
        }
        due("price(0, 0) of none", new ConflictSets().price(0, 0), -1);
    }

    private static void priceBefore() {
        says("6: otherwise answers the one before");
        ConflictSets x = units(2);
        due("price(1, 20)", x.price(1, 20), 1);
        due("price(1, 20) again", x.price(1, 20), 20);
        due("price(1, 1)", x.price(1, 1), 20);
        due("price(0, 7), another", x.price(0, 7), 1);
        due("price(1, 2)", x.price(1, 2), 1);
    }

    private static void howManyConditions() {
        says("7: How many conditions there are.");
        ConflictSets x = new ConflictSets();
        due("conditions() of none", x.conditions(), 0);
        for (int m = 1; m <= 9; m++) {
            x.literal(3);
            due("conditions(), a draft does not count", x.conditions(), m - 1);
            x.add();
            due("conditions()", x.conditions(), m);
        }
    }

    private static void possibleOrNot() {
        says("8: 1 if the set is possible, otherwise 0");
        due("possible(511)", nineTogether().possible(511), 1);
        due("possible(0)", nineTogether().possible(0), 1);
        ConflictSets x = kernelOfNine();
        due("possible(511), only all contradict", x.possible(511), 0);
        for (int i = 0; i < 9; i++) {
            due("possible(" + (511 - (1 << i)) + ")", x.possible(511 - (1 << i)), 1);
        }
    }

    private static void possibleNotGood() {
        says("8: -1 if set is not good");
        due("possible(1) of none", new ConflictSets().possible(1), -1);
        due("possible(-1) of none", new ConflictSets().possible(-1), -1);
        ConflictSets x = nineTogether();
        for (int bad : c(LEAST, LEAST + 511, -512, -1, 512, 513, 1023, 65536, 1 << 30, GREATEST)) {
            due("possible(" + bad + ")", x.possible(bad), -1);
        }
    }

    private static void leastModel() {
        says("9: The least number, as the sum of 2^v over the variables that are true");
        for (int values = 0; values < 32; values++) {
            ConflictSets x = new ConflictSets();
            for (int v = 0; v < 5; v++) {
                boolean isTrue = values / (1 << v) % 2 == 1;
                x.literal(isTrue ? 2 * v : 2 * v + 1);
                x.add();
            }
            due("model(31)", x.model(31), values);
        }
        due("model(1), the lesser of two", with(c(8, 6)).model(1), 8);
        due("model(1), all may be false", with(c(8, 7)).model(1), 0);
        due("model(511)", nineTogether().model(511), 31);
    }

    private static void modelNotGood() {
        says("9: -1 if set is not good");
        due("model(1) of none", new ConflictSets().model(1), -1);
        ConflictSets x = nineTogether();
        for (int bad : c(LEAST, LEAST + 511, -512, -1, 512, 513, 1023, 65536, 1 << 30, GREATEST)) {
            due("model(" + bad + ")", x.model(bad), -1);
        }
    }

    private static void modelNotPossible() {
        says("9: -2 if it is not possible");
        ConflictSets x = kernelOfNine();
        due("model(511)", x.model(511), -2);
        due("model(510), without the first", x.model(510), 0);
        due("model(3) of two units", units(2).model(3), -2);
    }

    private static void modelNotGoodBeforeNotPossible() {
        says("9: In every method the tests are made in the order named");
        ConflictSets x = units(2);
        // Each of these has the bits of the contradictory set 3 and others beside them.
        for (int bad : c(7, 11, -1, LEAST + 3, GREATEST)) {
            due("model(" + bad + ")", x.model(bad), -1);
        }
        due("model(3)", x.model(3), -2);
    }

    private static void howManyKernels() {
        says("10: How many kernels there are.");
        due("kernels() of none", new ConflictSets().kernels(), 0);
        due("kernels() of one", units(1).kernels(), 0);
        due("kernels() of two", units(2).kernels(), 1);
        due("kernels() of nine", units(9).kernels(), 4);
        due("kernels(), all together possible", nineTogether().kernels(), 0);
        due("kernels(), all nine", kernelOfNine().kernels(), 1);
        due("kernels(), one against eight", oneAgainstEight().kernels(), 8);
    }

    private static void noSuchKernel() {
        says("11: The i-th kernel in rising order of numbers (0 for the first); -1 if there is no such one.");
        ConflictSets x = oneAgainstEight();
        for (int i = 0; i < 8; i++) {
            due("kernel(" + i + ")", x.kernel(i), 1 + (2 << i));
        }
        for (int bad : c(LEAST, LEAST + 1, -256, -8, -2, -1, 8, 9, 256, 65536, GREATEST - 1, GREATEST)) {
            due("kernel(" + bad + ")", x.kernel(bad), -1);
        }
        due("kernel(0) of none", new ConflictSets().kernel(0), -1);
        due("kernel(0), all together possible", nineTogether().kernel(0), -1);
        due("kernel(-1), all together possible", nineTogether().kernel(-1), -1);
        due("kernel(0), all nine", kernelOfNine().kernel(0), 511);
        due("kernel(1), all nine", kernelOfNine().kernel(1), -1);
    }

    private static void risingKernels() {
        says("11: The i-th kernel in rising order of numbers");
        // The kernel of three members has the lesser number, so size is not what orders them.
        ConflictSets x = with(c(0), c(1, 2), c(3), c(1));
        due("kernel(0)", x.kernel(0), 7);
        due("kernel(1)", x.kernel(1), 9);
        due("kernel(2)", x.kernel(2), -1);
    }

    private static void howManyCorrections() {
        says("12: How many corrections there are (1, the empty set, if all conditions together are possible).");
        due("corrections() of none", new ConflictSets().corrections(), 1);
        due("corrections() of one", units(1).corrections(), 1);
        due("corrections(), nine together", nineTogether().corrections(), 1);
        due("correction(0), nine together", nineTogether().correction(0), 0);
        due("sort(0), nine together", nineTogether().sort(0), 2);
        due("corrections() of two", units(2).corrections(), 2);
        due("corrections() of nine", units(9).corrections(), 16);
        due("corrections(), all nine are the kernel", kernelOfNine().corrections(), 9);
    }

    private static void noSuchCorrection() {
        says("13: The i-th correction in rising order of numbers; -1 if there is no such one.");
        ConflictSets x = kernelOfNine();
        for (int i = 0; i < 9; i++) {
            due("correction(" + i + ")", x.correction(i), 1 << i);
        }
        for (int bad : c(LEAST, LEAST + 1, -256, -9, -2, -1, 9, 10, 256, 65536, GREATEST - 1, GREATEST)) {
            due("correction(" + bad + ")", x.correction(bad), -1);
        }
        for (ConflictSets together : new ConflictSets[] {new ConflictSets(), units(1), nineTogether()}) {
            due("correction(0), all together possible", together.correction(0), 0);
            due("correction(1), all together possible", together.correction(1), -1);
            due("correction(-1), all together possible", together.correction(-1), -1);
            due("correction(" + GREATEST + "), all together possible", together.correction(GREATEST), -1);
            due("correction(" + LEAST + "), all together possible", together.correction(LEAST), -1);
        }
        due("correction(0), one against eight", oneAgainstEight().correction(0), 1);
        due("correction(1), one against eight", oneAgainstEight().correction(1), 510);
        due("correction(2), one against eight", oneAgainstEight().correction(2), -1);
    }

    private static void leastPrice() {
        says("14: The least price of a correction.");
        due("cheapest() of none", new ConflictSets().cheapest(), 0);
        due("cheapest() of one", units(1).cheapest(), 0);
        ConflictSets x = nineTogether();
        x.price(0, 20);
        due("cheapest(), nine together", x.cheapest(), 0);
        x = oneAgainstEight();
        due("cheapest(), one against eight", x.cheapest(), 1);
        x.price(0, 7);
        due("cheapest(), one less than the eight", x.cheapest(), 7);
        x.price(0, 8);
        due("cheapest(), as dear as the eight", x.cheapest(), 8);
        x.price(0, 9);
        due("cheapest(), one more than the eight", x.cheapest(), 8);
        for (int i = 0; i < 9; i++) {
            x.price(i, 20);
        }
        due("cheapest(), all at 20", x.cheapest(), 20);
    }

    private static void leastCheapestSet() {
        says("15: The least number of a correction of that price.");
        due("cheapestSet() of none", new ConflictSets().cheapestSet(), 0);
        due("cheapestSet() of one", units(1).cheapestSet(), 0);
        due("cheapestSet(), nine together", nineTogether().cheapestSet(), 0);
        ConflictSets x = oneAgainstEight();
        x.price(0, 7);
        due("cheapestSet(), one less than the eight", x.cheapestSet(), 1);
        x.price(0, 8);
        due("cheapestSet(), as dear as the eight", x.cheapestSet(), 1);
        x.price(0, 9);
        due("cheapestSet(), one more than the eight", x.cheapestSet(), 510);
        x = kernelOfNine();
        due("cheapestSet(), nine as dear as each other", x.cheapestSet(), 1);
        for (int i = 0; i < 8; i++) {
            x.price(i, 20);
            due("cheapestSet(), dear up to " + i, x.cheapestSet(), 2 << i);
        }
        x.price(8, 20);
        due("cheapestSet(), all at 20", x.cheapestSet(), 1);
    }

    private static void noSmallest() {
        says("16: The least number of members of a kernel; 0 if there is none.");
        due("smallest() of none", new ConflictSets().smallest(), 0);
        due("smallest() of one", units(1).smallest(), 0);
        due("smallest(), nine together", nineTogether().smallest(), 0);
        due("smallest() of two", units(2).smallest(), 2);
        due("smallest(), all nine", kernelOfNine().smallest(), 9);
        due("smallest(), the greater one first", with(c(0), c(1, 2), c(3), c(1)).smallest(), 2);
        due("smallest(), the lesser one first", twoKernels().smallest(), 2);
    }

    private static void inHowManyKernels() {
        says("17: In how many kernels a condition is");
        ConflictSets x = oneAgainstEight();
        due("blame(0), in all", x.blame(0), 8);
        due("blame(8), in one", x.blame(8), 1);
        x = nineTogether();
        due("blame(0), there is no kernel", x.blame(0), 0);
        due("blame(8), there is no kernel", x.blame(8), 0);
        x = units(9);
        due("blame(7)", x.blame(7), 1);
        due("blame(8), in none of four", x.blame(8), 0);
        x = kernelOfNine();
        due("blame(0), all nine", x.blame(0), 1);
        due("blame(8), all nine", x.blame(8), 1);
    }

    private static void blameNotGood() {
        says("17: -1 if condition is not good");
        due("blame(0) of none", new ConflictSets().blame(0), -1);
        ConflictSets x = units(9);
        for (int bad : c(LEAST, LEAST + 1, -256, -32, -1, 9, 10, 32, 33, 256, 65536, GREATEST - 1, GREATEST)) {
            due("blame(" + bad + ")", x.blame(bad), -1);
        }
    }

    private static void noKernelForCore() {
        says("18: The set of the conditions that are in every kernel (all conditions if there is no kernel).");
        due("core() of none", new ConflictSets().core(), 0);
        due("core() of one", units(1).core(), 1);
        due("core(), nine together", nineTogether().core(), 511);
        due("core(), the one kernel is all", kernelOfNine().core(), 511);
        due("core(), one kernel and one condition beside it", units(3).core(), 3);
        due("core(), kernels with nothing in common", units(4).core(), 0);
        due("core(), one against eight", oneAgainstEight().core(), 1);
    }

    private static void sorts() {
        says("19: 1 if the set is a kernel, 2 if it is a correction but no kernel, otherwise 0");
        ConflictSets x = kernelOfNine();
        due("sort(511)", x.sort(511), 1);
        due("sort(510)", x.sort(510), 0);
        due("sort(0), not all are possible", x.sort(0), 0);
        due("sort(1)", x.sort(1), 2);
        due("sort(256)", x.sort(256), 2);
        due("sort(257), more than a correction", x.sort(257), 0);
        due("sort(0) of none", new ConflictSets().sort(0), 2);
        due("sort(0), nine together", nineTogether().sort(0), 2);
        due("sort(511), nine together", nineTogether().sort(511), 0);
        due("sort(510), one against eight", oneAgainstEight().sort(510), 2);
        due("sort(511), one against eight", oneAgainstEight().sort(511), 0);
        due("sort(257), one against eight", oneAgainstEight().sort(257), 1);
    }

    private static void sortNotGood() {
        says("19: -1 if set is not good");
        due("sort(1) of none", new ConflictSets().sort(1), -1);
        due("sort(-1) of none", new ConflictSets().sort(-1), -1);
        // These have the bits of a kernel or of a correction and others beside them.
        for (int bad : c(LEAST, LEAST + 257, -512, -2, -1, 512, 513, 512 + 257, 1022, 1023, 65537, 1 << 30, GREATEST)) {
            due("sort(" + bad + ")", oneAgainstEight().sort(bad), -1);
        }
    }

    private static void widths() {
        says("20: How many values of the variables (of all 32) make the condition hold");
        for (int literal = 0; literal <= 9; literal++) {
            due("width(0) of " + literal, with(c(literal)).width(0), 16);
        }
        due("width(0), two variables", with(c(0, 9)).width(0), 24);
        due("width(0), three variables", with(c(1, 4, 8)).width(0), 28);
        due("width(0), four variables", with(c(2, 5, 7, 8)).width(0), 30);
        due("width(0), a literal and its negation", with(c(8, 9)).width(0), 32);
        due("width(0), and two others beside them", with(c(0, 3, 6, 7)).width(0), 32);
        due("width(0), the same one put four times", with(c(5, 5, 5, 5)).width(0), 16);
    }

    private static void widthNotGood() {
        says("20: -1 if condition is not good");
        due("width(0) of none", new ConflictSets().width(0), -1);
        ConflictSets x = units(9);
        due("width(8)", x.width(8), 16);
        for (int bad : c(LEAST, LEAST + 1, -256, -1, 9, 10, 256, 65536, GREATEST - 1, GREATEST)) {
            due("width(" + bad + ")", x.width(bad), -1);
        }
        x.remove(0);
        due("width(8) after one went", x.width(8), -1);
    }

    private static void terms() {
        variables();
        literals();
        atMostNine();
        oneToFourLiterals();
        holds();
        sumOfPowers();
        emptySet();
        leastContradiction();
        greatestPossible();
        priceAtFirst();
        priceOfSet();
        goodCondition();
        goodSet();
        goodSetAfterRemove();
    }

    private static void changes() {
        newObject();
        draftAtFirst();
        literalOutside();
        literalIntoFull();
        literalOutsideBeforeFull();
        differentLiterals();
        addEmpties();
        addEmpty();
        addToNine();
        addEmptyBeforeNine();
        addNumber();
        clearing();
        laterOnesMove();
        removeNotGood();
        howManyLeft();
        priceNotGood();
        priceOutside();
        priceNotGoodBeforeOutside();
        priceBefore();
    }

    private static void questions() {
        howManyConditions();
        possibleOrNot();
        possibleNotGood();
        leastModel();
        modelNotGood();
        modelNotPossible();
        modelNotGoodBeforeNotPossible();
        howManyKernels();
        noSuchKernel();
        risingKernels();
        howManyCorrections();
        noSuchCorrection();
        leastPrice();
        leastCheapestSet();
        noSmallest();
        inHowManyKernels();
        blameNotGood();
        noKernelForCore();
        sorts();
        sortNotGood();
        widths();
        widthNotGood();
    }

    public static void main(String[] args) {
        calls();
        terms();
        changes();
        questions();
        System.out.println(wrong == 0 ? "all answers are as due" : wrong + " answers are not as due");
        if (wrong != 0) {
            System.exit(1);
        }
    }
}
