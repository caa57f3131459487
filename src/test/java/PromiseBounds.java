import java.util.Arrays;

/** The boundary cases that the promises name, a test for each; BoundaryTest runs them. */
final class PromiseBounds extends Scenes {
    private PromiseBounds() {
    }

    /** nat() with two columns, the rows (0, ANY) and (1 ANY, 0), and its tree of 5 nodes. */
    private static MatchCompile natTree() {
        MatchCompile x = nat();
        x.match(0, 0, NONE);
        row(x, 0, ANY);
        row(x, 1, ANY, 0);
        x.compile();
        return x;
    }

    /** natTree() with a sign and a value in hand. */
    private static MatchCompile natFull() {
        MatchCompile x = natTree();
        x.sign(1);
        x.give(1);
        return x;
    }

    /** A match that is TOO GREAT: 61 lines. */
    private static MatchCompile tooGreat() {
        MatchCompile x = nat();
        x.match(0, 0, NONE);
        row(x, anysOf(6, 10));
        row(x, ANY, ANY);
        return x;
    }

    /** What calls that need a tree answer: node(), missing(), missingSign(), isIdle(), about(6). */
    private static void dueNoTree(Check c, String when, MatchCompile x) {
        c.due("node(0, 0) " + when, ELEMENT, () -> x.node(0, 0));
        c.due("missing() " + when, NONE, x::missing);
        c.due("missingSign(0, 0) " + when, ELEMENT, () -> x.missingSign(0, 0));
        c.due("isIdle(0) " + when, ELEMENT, () -> x.isIdle(0));
        c.due("about(6) " + when, NONE, () -> x.about(6));
    }

    private static void dueNoMatch(Check c, String when, MatchCompile x) {
        c.due("about(2) " + when, 0, () -> x.about(2));
        c.due("about(3) " + when, 0, () -> x.about(3));
        c.due("sign(-1) " + when, STATE, () -> x.sign(ANY));
        c.due("row() " + when, STATE, x::row);
        c.due("compile() " + when, STATE, x::compile);
        c.due("give(0) " + when, STATE, () -> x.give(0));
        c.due("answer() " + when, STATE, x::answer);
        c.due("tests() " + when, STATE, x::tests);
        dueNoTree(c, when, x);
    }

    // Promise 1

    @Says(in = "Promise 1", text = "No types")
    static void p01newObjectHasNoTypes(Check c) {
        MatchCompile x = new MatchCompile();
        c.due("about(0)", 0, () -> x.about(0));
        c.due("about(1)", 0, () -> x.about(1));
        c.due("isEmpty(0)", INDEX, () -> x.isEmpty(0));
        c.due("maker(0, -1, -1, -1)", INDEX, () -> x.maker(0, NONE, NONE, NONE));
        c.due("match(0, -1, -1)", INDEX, () -> match(x, 0, NONE, NONE));
        c.due("the first type()", 0, x::type);
        c.due("about(0) of another object", 0, () -> new MatchCompile().about(0));
    }

    @Says(in = "Promise 1", text = "no match.")
    static void p01newObjectHasNoMatch(Check c) {
        dueNoMatch(c, "of a new object", new MatchCompile());
        c.due("about(0 .. 6)", "0 0 0 0 0 0 -1", () -> about(new MatchCompile()));
    }

    // Promise 2

    @Says(in = "Promise 2", text = "A new type without makers: its number.")
    static void p02typesAreNumberedAndWithoutMakers(Check c) {
        MatchCompile x = new MatchCompile();
        for (int i = 0; i < 8; i++) {
            int number = i;
            c.due("type()", number, x::type);
            c.due("about(0)", number + 1, () -> x.about(0));
            c.due("isEmpty(" + number + ")", true, () -> x.isEmpty(number));
        }
        c.due("about(1)", 0, () -> x.about(1));
        MatchCompile y = natFull();
        c.due("type() with a match", 1, y::type);
        c.due("about(0 .. 6): all of the match stays", "2 2 2 2 1 1 5", () -> about(y));
    }

    @Says(in = "Promise 2", text = "IllegalStateException: there are 8.")
    static void p02aNinthType(Check c) {
        MatchCompile x = nat();
        types(x, 6);
        c.due("the eighth type()", 7, x::type);
        x.match(7, 0, NONE);
        x.sign(ANY);
        refused(c, x, "a ninth type()", STATE, x::type);
        refused(c, x, "a ninth type() once more", STATE, x::type);
        c.due("isEmpty(7)", true, () -> x.isEmpty(7));
        c.due("isEmpty(8)", INDEX, () -> x.isEmpty(8));
    }

    // Promise 3

    @Says(in = "Promise 3", text = "with fields of types a, b, c, from the left up to the first that is NONE")
    static void p03fieldsUpToTheFirstNone(Check c) {
        MatchCompile x = new MatchCompile();
        x.type();
        int[][] made = {{NONE, NONE, NONE}, {NONE, 0, 0}, {NONE, 8, MIN}, {0, NONE, NONE}, {0, NONE, 0}, {0, NONE, MAX},
            {0, 0, NONE}, {0, 0, 0}};
        int[] fields = {0, 0, 0, 1, 1, 1, 2, 3};
        for (int i = 0; i < made.length; i++) {
            int[] f = made[i];
            c.due("maker(0, " + f[0] + ", " + f[1] + ", " + f[2] + ")", i, () -> x.maker(0, f[0], f[1], f[2]));
        }
        x.match(0, NONE, NONE);
        for (int i = 0; i < made.length; i++) {
            x.sign(i);
            anys(x, fields[i]);
            c.due("a sign behind the " + fields[i] + " fields of maker " + i, ARGUMENT, () -> x.sign(ANY));
            c.due("row() of maker " + i, i, x::row);
        }
    }

    @Says(in = "Promise 3", text = "its number. The match, its rows and its tree go.")
    static void p03theMatchGoes(Check c) {
        MatchCompile x = natFull();
        c.due("about(0 .. 6) before", "1 2 2 2 1 1 5", () -> about(x));
        c.due("maker(0, 0, 0, -1)", 2, () -> x.maker(0, 0, 0, NONE));
        dueNoMatch(c, "behind maker()", x);
        c.due("about(0 .. 6)", "1 3 0 0 0 0 -1", () -> about(x));
        c.due("match(0, -1, -1)", "done", () -> match(x, 0, NONE, NONE));
        c.due("about(0 .. 6) of the next match", "1 3 1 0 0 0 -1", () -> about(x));
        row(x, ANY);
        c.due("compile() of the next match", 1, x::compile);
    }

    @Says(in = "Promise 3", text = "IndexOutOfBoundsException: no such type")
    static void p03noSuchType(Check c) {
        MatchCompile x = natFull();
        for (int type : new int[] {1, 7, 8, NONE, -2, MIN, MAX}) {
            refused(c, x, "maker(" + type + ", -1, -1, -1)", INDEX, () -> x.maker(type, NONE, NONE, NONE));
            refused(c, x, "maker(" + type + ", 0, 0, 0)", INDEX, () -> x.maker(type, 0, 0, 0));
        }
        x.type();
        c.due("maker(1, -1, -1, -1) when there is a type 1", 2, () -> x.maker(1, NONE, NONE, NONE));
    }

    @Says(in = "Promise 3", text = "or one of a, b, c that counts is none.")
    static void p03noSuchFieldType(Check c) {
        MatchCompile x = natFull();
        for (int type : new int[] {1, 8, -2, MIN, MAX}) {
            refused(c, x, "maker(0, " + type + ", -1, -1)", INDEX, () -> x.maker(0, type, NONE, NONE));
            refused(c, x, "maker(0, 0, " + type + ", -1)", INDEX, () -> x.maker(0, 0, type, NONE));
            refused(c, x, "maker(0, 0, 0, " + type + ")", INDEX, () -> x.maker(0, 0, 0, type));
        }
        c.due("the next maker", 2, () -> x.maker(0, NONE, NONE, NONE));
    }

    @Says(in = "Promise 3", text = "IllegalStateException: the type has 8")
    static void p03aNinthMakerOfAType(Check c) {
        MatchCompile x = new MatchCompile();
        types(x, 2);
        for (int i = 0; i < 8; i++) {
            int number = i;
            c.due("maker " + number + " of type 1", number, () -> x.maker(1, NONE, NONE, NONE));
        }
        x.match(1, NONE, NONE);
        row(x, 7);
        x.compile();
        refused(c, x, "a ninth maker of type 1", STATE, () -> x.maker(1, NONE, NONE, NONE));
        refused(c, x, "a ninth maker of type 1 once more", STATE, () -> x.maker(1, 0, 1, 0));
        c.due("a maker of type 0", 8, () -> x.maker(0, NONE, NONE, NONE));
    }

    @Says(in = "Promise 3", text = "or there are 40.")
    static void p03aMaker41(Check c) {
        MatchCompile x = new MatchCompile();
        types(x, 8);
        for (int i = 0; i < 40; i++) {
            int number = i;
            c.due("maker " + number, number, () -> x.maker(number % 7, NONE, NONE, NONE));
        }
        x.match(4, NONE, NONE);
        c.due("sign() of the last maker", 1, () -> x.sign(39));
        refused(c, x, "a maker 41, of a type with 6", STATE, () -> x.maker(0, NONE, NONE, NONE));
        refused(c, x, "a maker 41, of a type without makers", STATE, () -> x.maker(7, NONE, NONE, NONE));
        c.due("isEmpty(7)", true, () -> x.isEmpty(7));
    }

    // Promise 4

    @Says(in = "Promise 4", text = "Whether a type is EMPTY.")
    static void p04emptyUntilAMakerHasAValue(Check c) {
        MatchCompile x = new MatchCompile();
        types(x, 3);
        x.maker(1, 0, NONE, NONE);
        c.due("isEmpty(0) without makers", true, () -> x.isEmpty(0));
        c.due("isEmpty(1) over an empty type", true, () -> x.isEmpty(1));
        x.maker(0, NONE, NONE, NONE);
        c.due("isEmpty(0) with a plain maker", false, () -> x.isEmpty(0));
        c.due("isEmpty(1) as type 0 has a value", false, () -> x.isEmpty(1));
        c.due("isEmpty(2) still", true, () -> x.isEmpty(2));
    }

    @Says(in = "Promise 4", text = "IndexOutOfBoundsException: no such type.")
    static void p04noSuchType(Check c) {
        MatchCompile x = natFull();
        for (int type : new int[] {1, 7, 8, NONE, -2, MIN, MAX}) {
            refused(c, x, "isEmpty(" + type + ")", INDEX, () -> x.isEmpty(type));
        }
        c.due("isEmpty(0)", false, () -> x.isEmpty(0));
    }

    // Promise 5

    @Says(in = "Promise 5", text = "A match begins, in the place of another")
    static void p05inThePlaceOfAnother(Check c) {
        MatchCompile x = natFull();
        c.due("match(0, -1, -1)", "done", () -> match(x, 0, NONE, NONE));
        c.due("about(0 .. 6)", "1 2 1 0 0 0 -1", () -> about(x));
        dueNoTree(c, "of a new match", x);
        c.due("answer() without values", ARGUMENT, x::answer);
        c.due("the first row()", 0, () -> row(x, 0));
        c.due("match(0, 0, 0) with a row in hand", "done", () -> match(x, 0, 0, 0));
        c.due("the first sign() of a new match", 1, () -> x.sign(1));
        c.due("its first give()", 1, () -> x.give(1));
    }

    @Says(in = "Promise 5", text = "with columns of types a, b, c, from the left up to the first that is NONE.")
    static void p05columnsUpToTheFirstNone(Check c) {
        MatchCompile x = nat();
        int[][] columns = {{0, NONE, NONE}, {0, NONE, 0}, {0, NONE, 8}, {0, NONE, MIN}, {0, 0, NONE}, {0, 0, 0}};
        int[] counts = {1, 1, 1, 1, 2, 3};
        for (int i = 0; i < columns.length; i++) {
            int[] t = columns[i];
            int count = counts[i];
            c.due("match(" + t[0] + ", " + t[1] + ", " + t[2] + ")", "done", () -> match(x, t[0], t[1], t[2]));
            c.due("its columns", count, () -> x.about(2));
            anys(x, count - 1);
            c.due("row() with a column too few", ARGUMENT, x::row);
            anys(x, count);
            c.due("sign() with a column too many", ARGUMENT, () -> x.sign(ANY));
            c.due("row()", 0, x::row);
        }
    }

    @Says(in = "Promise 5", text = "IndexOutOfBoundsException: as for maker()")
    static void p05noSuchType(Check c) {
        MatchCompile x = natFull();
        for (int type : new int[] {1, 8, -2, MIN, MAX}) {
            refused(c, x, "match(" + type + ", 0, 0)", INDEX, () -> match(x, type, 0, 0));
            refused(c, x, "match(" + type + ", -1, -1)", INDEX, () -> match(x, type, NONE, NONE));
            refused(c, x, "match(0, " + type + ", -1)", INDEX, () -> match(x, 0, type, NONE));
            refused(c, x, "match(0, 0, " + type + ")", INDEX, () -> match(x, 0, 0, type));
        }
    }

    @Says(in = "Promise 5", text = "or a is NONE.")
    static void p05noColumn(Check c) {
        MatchCompile x = natFull();
        refused(c, x, "match(-1, -1, -1)", INDEX, () -> match(x, NONE, NONE, NONE));
        refused(c, x, "match(-1, 0, 0)", INDEX, () -> match(x, NONE, 0, 0));
        MatchCompile y = nat();
        refused(c, y, "match(-1, 0, -1) without a match", INDEX, () -> match(y, NONE, 0, NONE));
        c.due("sign(-1)", STATE, () -> y.sign(ANY));
    }

    // Promise 6

    @Says(in = "Promise 6", text = "A sign comes to the row in hand: how many it has.")
    static void p06howManyItHas(Check c) {
        MatchCompile x = nat();
        x.match(0, 0, 0);
        int[] signs = {ANY, EITHER, 0, 1, ANY, 1, 1, 0};
        for (int i = 0; i < signs.length; i++) {
            int sign = signs[i];
            c.due("sign(" + sign + ")", i + 1, () -> x.sign(sign));
            c.due("about(4)", i + 1, () -> x.about(4));
        }
        c.due("row()", 0, x::row);
        c.due("the first sign of the next row", 1, () -> x.sign(EITHER));
    }

    @Says(in = "Promise 6", text = "IllegalStateException: there is no match")
    static void p06noMatch(Check c) {
        MatchCompile x = new MatchCompile();
        refused(c, x, "sign(-1) of a new object", STATE, () -> x.sign(ANY));
        MatchCompile y = nat();
        for (int sign : new int[] {0, ANY, EITHER, -3, 2, MIN, MAX}) {
            refused(c, y, "sign(" + sign + ")", STATE, () -> y.sign(sign));
        }
    }

    @Says(in = "Promise 6", text = "it has 40.")
    static void p06fortySigns(Check c) {
        MatchCompile x = nat();
        x.match(0, NONE, NONE);
        for (int i = 1; i <= 39; i++) {
            x.sign(1);
        }
        c.due("the fortieth sign", 40, () -> x.sign(0));
        for (int sign : new int[] {0, ANY, -3}) {
            refused(c, x, "sign(" + sign + ") when the row has 40 and is whole", STATE, () -> x.sign(sign));
        }
        c.due("row() of 40 signs", 0, x::row);
        for (int i = 1; i <= 40; i++) {
            x.sign(EITHER);
        }
        for (int sign : new int[] {0, ANY, -3}) {
            refused(c, x, "sign(" + sign + ") when the row has 40 and is not whole", STATE, () -> x.sign(sign));
        }
    }

    @Says(in = "Promise 6", text = "IllegalArgumentException: it can't stand there (no maker of the type that is asked for")
    static void p06noMakerOfTheType(Check c) {
        MatchCompile x = nat();
        types(x, 2);
        x.maker(1, 0, 1, NONE);
        x.match(1, 0, 2);
        int[] notOfType1 = {0, 1, 3, 39, 40, MAX};
        for (int sign : notOfType1) {
            refused(c, x, "sign(" + sign + ") for column 0", ARGUMENT, () -> x.sign(sign));
        }
        c.due("sign(2) for column 0", 1, () -> x.sign(2));
        refused(c, x, "sign(2) for field 0", ARGUMENT, () -> x.sign(2));
        c.due("sign(0) for field 0", 2, () -> x.sign(0));
        c.due("EITHER for field 1", 3, () -> x.sign(EITHER));
        refused(c, x, "sign(0) for the first of EITHER", ARGUMENT, () -> x.sign(0));
        c.due("ANY for the first of EITHER", 4, () -> x.sign(ANY));
        refused(c, x, "sign(1) for the second of EITHER", ARGUMENT, () -> x.sign(1));
        c.due("ANY for the second of EITHER", 5, () -> x.sign(ANY));
        for (int sign : new int[] {2, 3, 4, 39, 40, MAX}) {
            refused(c, x, "sign(" + sign + ") for column 1, of type 0", ARGUMENT, () -> x.sign(sign));
        }
        c.due("sign(0) for column 1", 6, () -> x.sign(0));
        for (int sign : new int[] {0, 1, 2, 3}) {
            refused(c, x, "sign(" + sign + ") for a type without makers", ARGUMENT, () -> x.sign(sign));
        }
        c.due("ANY for a type without makers", 7, () -> x.sign(ANY));
        c.due("row()", 0, x::row);
    }

    @Says(in = "Promise 6", text = "a sign below -2")
    static void p06signBelowEither(Check c) {
        MatchCompile x = nat();
        x.match(0, NONE, NONE);
        for (int sign : new int[] {-3, -4, -40, MIN + 1, MIN}) {
            refused(c, x, "sign(" + sign + ")", ARGUMENT, () -> x.sign(sign));
        }
        c.due("sign(-2)", 1, () -> x.sign(-2));
        refused(c, x, "sign(-3) inside EITHER", ARGUMENT, () -> x.sign(-3));
    }

    @Says(in = "Promise 6", text = "or all columns have their patterns).")
    static void p06allColumnsHaveTheirs(Check c) {
        MatchCompile x = nat();
        for (int columns = 1; columns <= 3; columns++) {
            x.match(0, columns > 1 ? 0 : NONE, columns > 2 ? 0 : NONE);
            for (int column = 0; column < columns; column++) {
                signs(x, 1, 0);
            }
            for (int sign : new int[] {ANY, EITHER, 0, 1, -3, MAX}) {
                refused(c, x, "sign(" + sign + ") behind " + columns + " columns", ARGUMENT, () -> x.sign(sign));
            }
            c.due("row()", 0, x::row);
        }
    }

    // Promise 7

    @Says(in = "Promise 7", text = "The row in hand is the match's next row: its number; a new one is in hand.")
    static void p07theNextRow(Check c) {
        MatchCompile x = nat();
        x.match(0, 0, NONE);
        for (int i = 0; i < 12; i++) {
            int number = i;
            signs(x, ANY, 1, 0);
            c.due("row()", number, x::row);
            c.due("rows", number + 1, () -> x.about(3));
            c.due("signs in hand", 0, () -> x.about(4));
        }
        c.due("a sign of a thirteenth row", 1, () -> x.sign(1));
    }

    @Says(in = "Promise 7", text = "IllegalStateException: there is no match")
    static void p07noMatch(Check c) {
        MatchCompile x = new MatchCompile();
        refused(c, x, "row() of a new object", STATE, x::row);
        MatchCompile y = nat();
        refused(c, y, "row() without a match", STATE, y::row);
        y.match(0, NONE, NONE);
        y.sign(ANY);
        y.maker(0, NONE, NONE, NONE);
        refused(c, y, "row() when the match is gone", STATE, y::row);
    }

    @Says(in = "Promise 7", text = "or there are 12 rows.")
    static void p07aThirteenthRow(Check c) {
        MatchCompile x = nat();
        x.match(0, NONE, NONE);
        for (int i = 0; i < 11; i++) {
            row(x, 0);
        }
        c.due("the twelfth row", 11, () -> row(x, 1, ANY));
        x.compile();
        x.give(0);
        refused(c, x, "row() of 12 rows, with no sign", STATE, x::row);
        x.sign(1);
        refused(c, x, "row() of 12 rows, not whole", STATE, x::row);
        x.sign(ANY);
        refused(c, x, "row() of 12 rows, whole", STATE, x::row);
        c.due("isIdle(11)", false, () -> x.isIdle(11));
        c.due("isIdle(12)", ELEMENT, () -> x.isIdle(12));
        c.due("answer()", 0, x::answer);
    }

    @Says(in = "Promise 7", text = "IllegalArgumentException: a column has no whole pattern yet")
    static void p07noWholePattern(Check c) {
        MatchCompile x = nat();
        x.match(0, 0, NONE);
        int[][] notWhole = {{}, {ANY}, {0}, {1}, {1, 0}, {1, 1, 1}, {EITHER}, {EITHER, 0}, {EITHER, 0, ANY}, {ANY, 1},
            {ANY, EITHER}, {ANY, EITHER, 0}, {0, EITHER, EITHER, 0, 0}};
        for (int[] signs : notWhole) {
            signs(x, signs);
            c.due("row() of " + Arrays.toString(signs), ARGUMENT, x::row);
            c.due("rows", 0, () -> x.about(3));
        }
        c.due("row() of two whole patterns", 0, () -> row(x, EITHER, 0, ANY, 1, 0));
    }

    @Says(in = "Promise 7", text = "(the row in hand goes).")
    static void p07theRowInHandGoes(Check c) {
        MatchCompile x = nat();
        x.match(0, 0, NONE);
        signs(x, 1, EITHER, 0);
        c.due("row()", ARGUMENT, x::row);
        c.due("signs in hand", 0, () -> x.about(4));
        c.due("the next row's first sign", 1, () -> x.sign(ANY));
        c.due("its second", 2, () -> x.sign(0));
        c.due("a third", ARGUMENT, () -> x.sign(0));
        c.due("row() of the two", 0, x::row);
        give(x, 1, 0, 0);
        c.due("answer() by the two", 0, x::answer);
        for (int i = 0; i < 40; i++) {
            x.sign(1);
        }
        c.due("row() of 40 that are not whole", ARGUMENT, x::row);
        c.due("signs in hand", 0, () -> x.about(4));
    }

    @Says(in = "Promise 7", text = "The tree goes.")
    static void p07theTreeGoes(Check c) {
        MatchCompile x = natTree();
        give(x, 0, 0);
        c.due("tests() with a tree", 1, x::tests);
        c.due("row()", 2, () -> row(x, 1, ANY, 1, ANY));
        dueNoTree(c, "behind row()", x);
        c.due("tests() behind row()", ELEMENT, x::tests);
        c.due("answer() behind row()", 0, x::answer);
        c.due("compile()", 5, x::compile);
        c.due("missing()", 0, x::missing);
    }

    // Promise 8

    @Says(in = "Promise 8", text = "The tree is made: how many nodes.")
    static void p08fromOneNodeTo300(Check c) {
        MatchCompile x = nat();
        x.match(0, NONE, NONE);
        c.due("compile() without rows", 1, x::compile);
        row(x, 0);
        c.due("compile() of one row", 3, x::compile);
        c.due("compile() once more", 3, x::compile);
        c.due("about(6)", 3, () -> x.about(6));
        c.due("compile() of 300 nodes", 300, manyNodes(3)::compile);
    }

    @Says(in = "Promise 8", text = "IllegalStateException: there is no match.")
    static void p08noMatch(Check c) {
        MatchCompile x = new MatchCompile();
        refused(c, x, "compile() of a new object", STATE, x::compile);
        MatchCompile y = natTree();
        y.maker(0, NONE, NONE, NONE);
        refused(c, y, "compile() when the match is gone", STATE, y::compile);
    }

    @Says(in = "Promise 8", text = "UnsupportedOperationException: TOO GREAT")
    static void p08tooGreat(Check c) {
        c.due("compile() of 61 lines", GREAT, tooGreat()::compile);
        c.due("compile() of 41 places", GREAT, manyPlaces(5, SEVEN_OPENED, ANY)::compile);
        c.due("compile() of 301 nodes", GREAT, manyNodes(4)::compile);
        MatchCompile x = tooGreat();
        c.due("compile() of 61 lines", GREAT, x::compile);
        c.due("compile() once more", GREAT, x::compile);
    }

    @Says(in = "Promise 8", text = "(there is no tree then).")
    static void p08noTreeThen(Check c) {
        MatchCompile x = manyNodes(4);
        x.sign(7);
        give(x, 0, 8, 16, 25);
        String before = about(x);
        c.due("compile()", GREAT, x::compile);
        dueNoTree(c, "behind compile()", x);
        c.due("tests() behind compile()", ELEMENT, x::tests);
        c.due("about(0 .. 6): the match stays", before, () -> about(x));
        c.due("answer() by the rows", NONE, x::answer);
        MatchCompile y = tooGreat();
        c.due("compile()", GREAT, y::compile);
        dueNoTree(c, "behind compile() of 61 lines", y);
        c.due("match(0, -1, -1)", "done", () -> match(y, 0, NONE, NONE));
        c.due("compile() of another match", 1, y::compile);
        c.due("node(0, 0) of another match", 0, () -> y.node(0, 0));
    }

    // Promise 9

    @Says(in = "Promise 9", text = "Of node i: 0 FAIL, 1 LEAF, 2 TEST (what = 0)")
    static void p09kinds(Check c) {
        MatchCompile x = natTree();
        int[] kinds = {2, 1, 2, 1, 0};
        for (int i = 0; i < kinds.length; i++) {
            int node = i;
            c.due("node(" + node + ", 0)", kinds[node], () -> x.node(node, 0));
        }
    }

    @Says(in = "Promise 9", text = "of a TEST the type of its place (1), how many places its table has (2), "
        + "which of these it tests (3), how many branches (4)")
    static void p09ofATest(Check c) {
        MatchCompile x = new MatchCompile();
        types(x, 3);
        x.maker(2, 1, 1, 1);
        x.maker(1, NONE, NONE, NONE);
        x.match(0, 2, 1);
        row(x, ANY, 0, ANY, ANY, 1, 1);
        c.due("compile()", 4, x::compile);
        c.due("a TEST of the second of 3 places", "2 2 3 1 1 1 | -1 -1", () -> node(x, 0));
        c.due("a TEST of the fourth of 5 places", "2 1 5 3 1 2 | 0 0", () -> node(x, 1));
        c.due("a TEST of the last of 4 places", "2 1 4 3 1 3 | 1 1", () -> node(x, 2));
        c.due("a LEAF", "1 0 -1 -1 -1 | 2 1", () -> node(x, 3));
    }

    @Says(in = "Promise 9", text = "from 5 on their nodes")
    static void p09eightBranchesAndNone(Check c) {
        MatchCompile x = new MatchCompile();
        types(x, 2);
        for (int i = 0; i < 8; i++) {
            x.maker(0, NONE, NONE, NONE);
        }
        x.maker(1, 1, NONE, NONE);
        x.match(0, NONE, NONE);
        row(x, 3);
        c.due("compile()", 9, x::compile);
        c.due("branches", 8, () -> x.node(0, 4));
        for (int i = 0; i < 8; i++) {
            int branch = i;
            c.due("node(0, " + (5 + i) + ")", 1 + branch, () -> x.node(0, 5 + branch));
        }
        c.due("node(0, 13), behind the last", NONE, () -> x.node(0, 13));
        x.match(1, NONE, NONE);
        row(x, 8, ANY);
        c.due("compile()", 1, x::compile);
        c.due("no branches", 0, () -> x.node(0, 4));
        c.due("node(0, 5) without branches", NONE, () -> x.node(0, 5));
    }

    @Says(in = "Promise 9", text = "of a LEAF its row (1)")
    static void p09rowOfALeaf(Check c) {
        MatchCompile x = nat();
        x.match(0, NONE, NONE);
        for (int i = 0; i < 11; i++) {
            row(x, 1, 1, ANY);
        }
        row(x, ANY);
        c.due("compile()", 5, x::compile);
        c.due("the LEAF of the last row", 11, () -> x.node(1, 1));
        c.due("the LEAF of row 0", 0, () -> x.node(4, 1));
        for (int what : new int[] {2, 3, 4, 5, 6}) {
            c.due("node(1, " + what + ") of a LEAF", NONE, () -> x.node(1, what));
        }
    }

    @Says(in = "Promise 9", text = "the node that it is a branch of (100; NONE of node 0)")
    static void p09branchOf(Check c) {
        MatchCompile x = natTree();
        int[] above = {NONE, 0, 0, 2, 2};
        for (int i = 0; i < above.length; i++) {
            int node = i;
            c.due("node(" + node + ", 100)", above[node], () -> x.node(node, 100));
        }
    }

    @Says(in = "Promise 9", text = "the maker of that branch (101)")
    static void p09makerOfBranch(Check c) {
        MatchCompile x = natTree();
        int[] makers = {NONE, 0, 1, 0, 1};
        for (int i = 0; i < makers.length; i++) {
            int node = i;
            c.due("node(" + node + ", 101)", makers[node], () -> x.node(node, 101));
        }
    }

    @Says(in = "Promise 9", text = "NONE for another what.")
    static void p09anotherWhat(Check c) {
        MatchCompile x = natTree();
        for (int node = 0; node < 5; node++) {
            int i = node;
            for (int what : new int[] {7, 8, 9, 13, 99, 102, 500, -1, -5, MIN, MIN + 4, MAX}) {
                c.due("node(" + i + ", " + what + ")", NONE, () -> x.node(i, what));
            }
        }
        for (int what = 1; what <= 6; what++) {
            int w = what;
            c.due("node(4, " + what + ") of a FAIL", NONE, () -> x.node(4, w));
        }
    }

    @Says(in = "Promise 9", text = "NoSuchElementException: no such node")
    static void p09noSuchNode(Check c) {
        MatchCompile x = natTree();
        for (int node : new int[] {5, 6, 299, 300, NONE, -2, MIN, MAX}) {
            for (int what : new int[] {0, 1, 5, 100, 101, 7, -1}) {
                c.due("node(" + node + ", " + what + ")", ELEMENT, () -> x.node(node, what));
            }
        }
        MatchCompile y = manyNodes(3);
        y.compile();
        c.due("node(299, 0) of 300", 0, () -> y.node(299, 0));
        c.due("node(300, 0) of 300", ELEMENT, () -> y.node(300, 0));
    }

    @Says(in = "Promise 9", text = "(or no tree).")
    static void p09noTree(Check c) {
        MatchCompile x = new MatchCompile();
        c.due("node(0, 0) of a new object", ELEMENT, () -> x.node(0, 0));
        MatchCompile y = nat();
        y.match(0, NONE, NONE);
        row(y, ANY);
        for (int what : new int[] {0, 1, 100, 7}) {
            c.due("node(0, " + what + ") before compile()", ELEMENT, () -> y.node(0, what));
        }
        y.compile();
        c.due("node(0, 0)", 1, () -> y.node(0, 0));
        y.match(0, NONE, NONE);
        c.due("node(0, 0) of a new match", ELEMENT, () -> y.node(0, 0));
    }

    // Promise 10

    @Says(in = "Promise 10", text = "How many missing cases")
    static void p10fromNoneTo(Check c) {
        MatchCompile x = nat();
        x.match(0, NONE, NONE);
        x.compile();
        c.due("missing() without rows", 1, x::missing);
        row(x, 1, 1, 0);
        x.compile();
        c.due("missing() of one row", 3, x::missing);
        row(x, ANY);
        x.compile();
        c.due("missing() with a row of ANY", 0, x::missing);
    }

    @Says(in = "Promise 10", text = "NONE without a tree.")
    static void p10noTree(Check c) {
        MatchCompile x = new MatchCompile();
        c.due("missing() of a new object", NONE, x::missing);
        MatchCompile y = nat();
        y.match(0, NONE, NONE);
        c.due("missing() before compile()", NONE, y::missing);
        y.compile();
        row(y, 0);
        c.due("missing() behind row()", NONE, y::missing);
        MatchCompile z = tooGreat();
        c.due("compile()", GREAT, z::compile);
        c.due("missing() of what is TOO GREAT", NONE, z::missing);
    }

    // Promise 11

    @Says(in = "Promise 11", text = "Sign i of missing case k's patterns, column after column")
    static void p11columnAfterColumn(Check c) {
        MatchCompile x = nat();
        x.match(0, 0, 0);
        row(x, ANY, 1, 1, ANY, 0);
        x.compile();
        String[] cases = {"-1 0 -1", "-1 1 0 -1", "-1 1 1 -1 1 -1"};
        c.due("missing()", cases.length, x::missing);
        for (int k : new int[] {2, 0, 1, 0}) {
            c.due("missing case " + k, cases[k], () -> missingCase(x, k));
        }
    }

    @Says(in = "Promise 11", text = "NONE - 2 behind the last one.")
    static void p11behindTheLast(Check c) {
        MatchCompile x = natTree();
        c.due("missing case 0", "1 -1 1 -1", () -> missingCase(x, 0));
        c.due("missingSign(0, 3), the last", ANY, () -> x.missingSign(0, 3));
        for (int i : new int[] {4, 5, 39, 40, 339, 340, 1000, MAX}) {
            c.due("missingSign(0, " + i + ")", -3, () -> x.missingSign(0, i));
        }
        MatchCompile longest = deepTree();
        longest.compile();
        // 294 TESTs have found a maker, and 24 places are left
        c.due("the last sign of the longest case", ANY, () -> longest.missingSign(0, 317));
        c.due("the sign behind it", -3, () -> longest.missingSign(0, 318));
        x.match(0, NONE, NONE);
        x.compile();
        c.due("missingSign(0, 0) of one column", ANY, () -> x.missingSign(0, 0));
        c.due("missingSign(0, 1) of one column", -3, () -> x.missingSign(0, 1));
    }

    @Says(in = "Promise 11", text = "NoSuchElementException: no such case.")
    static void p11noSuchCase(Check c) {
        MatchCompile x = natTree();
        for (int k : new int[] {1, 2, 299, NONE, -2, MIN, MAX}) {
            c.due("missingSign(" + k + ", 0)", ELEMENT, () -> x.missingSign(k, 0));
            c.due("missingSign(" + k + ", 400)", ELEMENT, () -> x.missingSign(k, 400));
        }
        row(x, ANY, ANY);
        c.due("missingSign(0, 0) without a tree", ELEMENT, () -> x.missingSign(0, 0));
        x.compile();
        c.due("missingSign(0, 0) when none is missing", ELEMENT, () -> x.missingSign(0, 0));
        c.due("missingSign(0, 0) of a new object", ELEMENT, () -> new MatchCompile().missingSign(0, 0));
    }

    // Promise 12

    @Says(in = "Promise 12", text = "Whether a row is IDLE.")
    static void p12firstAndLastRow(Check c) {
        MatchCompile x = nat();
        x.match(0, NONE, NONE);
        for (int i = 0; i < 11; i++) {
            row(x, 1, 0);
        }
        row(x, 0);
        x.compile();
        for (int i = 0; i < 12; i++) {
            int row = i;
            c.due("isIdle(" + row + ")", row > 0 && row < 11, () -> x.isIdle(row));
        }
    }

    @Says(in = "Promise 12", text = "NoSuchElementException: no such row")
    static void p12noSuchRow(Check c) {
        MatchCompile x = natTree();
        c.due("isIdle(1)", false, () -> x.isIdle(1));
        for (int row : new int[] {2, 11, 12, NONE, -2, MIN, MAX}) {
            c.due("isIdle(" + row + ")", ELEMENT, () -> x.isIdle(row));
        }
        x.match(0, NONE, NONE);
        x.compile();
        c.due("isIdle(0) without rows", ELEMENT, () -> x.isIdle(0));
    }

    @Says(in = "Promise 12", text = "or no tree.")
    static void p12noTree(Check c) {
        MatchCompile x = nat();
        x.match(0, NONE, NONE);
        row(x, 0);
        c.due("isIdle(0) before compile()", ELEMENT, () -> x.isIdle(0));
        x.compile();
        c.due("isIdle(0)", false, () -> x.isIdle(0));
        row(x, 0);
        c.due("isIdle(0) behind row()", ELEMENT, () -> x.isIdle(0));
        MatchCompile y = tooGreat();
        c.due("compile()", GREAT, y::compile);
        c.due("isIdle(0) of what is TOO GREAT", ELEMENT, () -> y.isIdle(0));
    }

    // Promise 13

    @Says(in = "Promise 13", text = "A maker comes to the values in hand: how many they have.")
    static void p13howManyTheyHave(Check c) {
        MatchCompile x = nat();
        x.match(0, 0, 0);
        int[] makers = {0, 1, 1, 0, 1, 0};
        for (int i = 0; i < makers.length; i++) {
            int maker = makers[i];
            c.due("give(" + maker + ")", i + 1, () -> x.give(maker));
            c.due("about(5)", i + 1, () -> x.about(5));
        }
    }

    @Says(in = "Promise 13", text = "IllegalStateException: there is no match")
    static void p13noMatch(Check c) {
        MatchCompile x = new MatchCompile();
        refused(c, x, "give(0) of a new object", STATE, () -> x.give(0));
        MatchCompile y = nat();
        for (int maker : new int[] {0, 2, NONE, MIN, MAX}) {
            refused(c, y, "give(" + maker + ")", STATE, () -> y.give(maker));
        }
    }

    @Says(in = "Promise 13", text = "they have 60.")
    static void p13sixtyValues(Check c) {
        MatchCompile x = nat();
        x.match(0, NONE, NONE);
        row(x, ANY);
        for (int i = 1; i < 60; i++) {
            x.give(1);
        }
        c.due("the sixtieth", 60, () -> x.give(0));
        for (int maker : new int[] {0, 1, NONE, MAX}) {
            refused(c, x, "give(" + maker + ") when they have 60 and are whole", STATE, () -> x.give(maker));
        }
        c.due("answer() of 60", 0, x::answer);
        x.empty();
        for (int i = 1; i <= 60; i++) {
            x.give(1);
        }
        for (int maker : new int[] {0, 1, NONE, MAX}) {
            refused(c, x, "give(" + maker + ") when they have 60 and are not whole", STATE, () -> x.give(maker));
        }
        c.due("answer() of 60 that are not whole", ARGUMENT, x::answer);
    }

    @Says(in = "Promise 13", text = "IllegalArgumentException: it can't stand there.")
    static void p13cantStandThere(Check c) {
        MatchCompile x = nat();
        types(x, 1);
        x.maker(1, 0, 1, NONE);
        x.maker(1, NONE, NONE, NONE);
        x.match(1, 0, NONE);
        for (int maker : new int[] {0, 1, 4, 39, 40, ANY, EITHER, -3, MIN, MAX}) {
            refused(c, x, "give(" + maker + ") for column 0", ARGUMENT, () -> x.give(maker));
        }
        c.due("give(2) for column 0", 1, () -> x.give(2));
        for (int maker : new int[] {3, 4, 5, 39, 40, ANY, EITHER, MIN, MAX}) {
            refused(c, x, "give(" + maker + ") for field 0, of type 0", ARGUMENT, () -> x.give(maker));
        }
        c.due("give(0) for field 0", 2, () -> x.give(0));
        refused(c, x, "give(0) for field 1", ARGUMENT, () -> x.give(0));
        c.due("give(3) for field 1", 3, () -> x.give(3));
        refused(c, x, "give(3) for column 1", ARGUMENT, () -> x.give(3));
        c.due("give(0) for column 1", 4, () -> x.give(0));
        for (int maker : new int[] {0, 2, ANY, MAX}) {
            refused(c, x, "give(" + maker + ") behind the last column", ARGUMENT, () -> x.give(maker));
        }
    }

    // Promise 14

    @Says(in = "Promise 14", text = "The row that answers the values in hand, by the rows")
    static void p14byTheRows(Check c) {
        MatchCompile x = nat();
        x.match(0, NONE, NONE);
        for (int i = 0; i < 11; i++) {
            row(x, 1, 0);
        }
        row(x, EITHER, 0, 1, ANY);
        give(x, 0);
        c.due("answer() of the last row, without a tree", 11, x::answer);
        give(x, 1, 0);
        c.due("answer() of the first row", 0, x::answer);
        MatchCompile y = tooGreat();
        give(y, 0, 0);
        c.due("compile()", GREAT, y::compile);
        c.due("answer() of what is TOO GREAT", 0, y::answer);
    }

    @Says(in = "Promise 14", text = "NONE if none does.")
    static void p14noneDoes(Check c) {
        MatchCompile x = nat();
        x.match(0, 0, NONE);
        give(x, 0, 0);
        c.due("answer() without rows", NONE, x::answer);
        row(x, 0, 1, ANY);
        row(x, 1, ANY, ANY);
        c.due("answer() of rows that take other values", NONE, x::answer);
        row(x, 0, 0);
        c.due("answer() of a row that takes them", 2, x::answer);
    }

    @Says(in = "Promise 14", text = "(They stay.)")
    static void p14theyStay(Check c) {
        MatchCompile x = natTree();
        give(x, 1, 0, 0);
        for (int i = 0; i < 3; i++) {
            c.due("answer()", 1, x::answer);
            c.due("values in hand", 3, () -> x.about(5));
        }
        give(x, 1, 0);
        c.due("answer() of half the values", ARGUMENT, x::answer);
        c.due("values in hand", 2, () -> x.about(5));
        c.due("the next value", 3, () -> x.give(0));
        c.due("answer()", 1, x::answer);
    }

    @Says(in = "Promise 14", text = "IllegalStateException: there is no match.")
    static void p14noMatch(Check c) {
        MatchCompile x = new MatchCompile();
        refused(c, x, "answer() of a new object", STATE, x::answer);
        MatchCompile y = natTree();
        give(y, 0, 0);
        y.maker(0, NONE, NONE, NONE);
        refused(c, y, "answer() when the match is gone", STATE, y::answer);
    }

    @Says(in = "Promise 14", text = "IllegalArgumentException: they are not whole.")
    static void p14notWhole(Check c) {
        MatchCompile x = nat();
        x.match(0, 0, NONE);
        row(x, ANY, ANY);
        int[][] notWhole = {{}, {0}, {1}, {1, 0}, {1, 1, 1, 0}, {0, 1}, {1, 0, 1, 1}};
        for (int[] values : notWhole) {
            give(x, values);
            refused(c, x, "answer() of " + Arrays.toString(values), ARGUMENT, x::answer);
        }
        give(x, 1, 0, 1, 1, 0);
        c.due("answer() of whole values", 0, x::answer);
    }

    // Promise 15

    @Says(in = "Promise 15", text = "The same by the tree: how many TESTs are made until a LEAF or FAIL.")
    static void p15fromNoTestOn(Check c) {
        MatchCompile x = nat();
        x.match(0, NONE, NONE);
        x.compile();
        give(x, 0);
        c.due("tests() of a FAIL at once", 0, x::tests);
        row(x, ANY);
        x.compile();
        c.due("tests() of a LEAF at once", 0, x::tests);
        x.match(0, NONE, NONE);
        for (int i = 1; i <= 39; i++) {
            x.sign(1);
        }
        x.sign(0);
        x.row();
        c.due("compile() of 40 TESTs", 81, x::compile);
        for (int i = 1; i <= 59; i++) {
            x.give(1);
        }
        x.give(0);
        c.due("tests() until the FAIL of the last", 40, x::tests);
        c.due("answer()", NONE, x::answer);
        c.due("values in hand", 60, () -> x.about(5));
        give(x, 0);
        c.due("tests() until the first FAIL", 1, x::tests);
        MatchCompile y = nat();
        y.maker(0, 0, 0, 0);
        y.match(0, 0, 0);
        row(y, ANY, 2, ANY, 0, 1, ANY, 1, 1, 0);
        y.compile();
        give(y, 1, 0, 2, 0, 0, 1, 1, 0, 1, 1, 0);
        c.due("tests() of all places that are tested", 6, y::tests);
        give(y, 1, 0, 2, 1, 0, 0, 1, 0, 1, 1, 1, 0);
        c.due("tests() until the last place's FAIL", 6, y::tests);
        give(y, 2, 1, 0, 0, 0, 2, 1, 0, 1, 0, 1, 0, 1, 1, 0);
        c.due("tests() until a field's FAIL", 2, y::tests);
    }

    @Says(in = "Promise 15", text = "Exceptions likewise")
    static void p15likewise(Check c) {
        MatchCompile x = new MatchCompile();
        refused(c, x, "tests() of a new object", STATE, x::tests);
        MatchCompile y = natTree();
        for (int[] values : new int[][] {{}, {0}, {1, 0}, {0, 1}}) {
            give(y, values);
            refused(c, y, "tests() of " + Arrays.toString(values), ARGUMENT, y::tests);
        }
        give(y, 0, 0);
        c.due("tests() of whole values", 1, y::tests);
        y.maker(0, NONE, NONE, NONE);
        refused(c, y, "tests() when the match is gone", STATE, y::tests);
    }

    @Says(in = "Promise 15", text = "NoSuchElementException: there is no tree (this last).")
    static void p15noTreeLast(Check c) {
        MatchCompile x = nat();
        c.due("tests(): no match, no values, no tree", STATE, x::tests);
        x.match(0, NONE, NONE);
        row(x, ANY);
        c.due("tests(): no values, no tree", ARGUMENT, x::tests);
        x.give(1);
        c.due("tests(): half a value, no tree", ARGUMENT, x::tests);
        x.give(0);
        refused(c, x, "tests(): no tree", ELEMENT, x::tests);
        x.compile();
        c.due("tests() with a tree", 0, x::tests);
        row(x, ANY);
        refused(c, x, "tests() behind row()", ELEMENT, x::tests);
    }

    // Promise 16

    @Says(in = "Promise 16", text = "The values in hand go.")
    static void p16theValuesGo(Check c) {
        MatchCompile x = new MatchCompile();
        c.dueAct("empty() of a new object", "done", x::empty);
        c.due("about(0 .. 6)", "0 0 0 0 0 0 -1", () -> about(x));
        MatchCompile y = natFull();
        c.dueAct("empty()", "done", y::empty);
        c.due("about(0 .. 6): all else stays", "1 2 2 2 1 0 5", () -> about(y));
        c.dueAct("empty() of no values", "done", y::empty);
        c.due("answer()", ARGUMENT, y::answer);
        c.due("the first give()", 1, () -> y.give(0));
        c.due("the second give()", 2, () -> y.give(0));
        c.due("tests()", 1, y::tests);
        y.empty();
        for (int i = 0; i < 60; i++) {
            y.give(1);
        }
        y.empty();
        c.due("give() behind empty() of 60", 1, () -> y.give(0));
    }

    // Promise 17

    @Says(in = "Promise 17", text = "Types, makers, columns (0 without a match), rows, signs in hand, values in hand")
    static void p17abouts(Check c) {
        MatchCompile x = nat();
        types(x, 7);
        c.due("about(2) without a match", 0, () -> x.about(2));
        c.due("about(3) without a match", 0, () -> x.about(3));
        x.match(0, 1, 2);
        row(x, ANY, ANY, ANY);
        row(x, 1, ANY, ANY, ANY);
        signs(x, 1, 1, 0, ANY);
        for (int i = 0; i < 5; i++) {
            x.give(1);
        }
        int[] abouts = {8, 2, 3, 2, 4, 5};
        for (int what = 0; what < abouts.length; what++) {
            int w = what;
            c.due("about(" + what + ")", abouts[what], () -> x.about(w));
        }
    }

    @Says(in = "Promise 17", text = "nodes (NONE without a tree): what 0 .. 6")
    static void p17nodes(Check c) {
        MatchCompile x = new MatchCompile();
        c.due("about(6) of a new object", NONE, () -> x.about(6));
        MatchCompile y = nat();
        y.match(0, NONE, NONE);
        c.due("about(6) before compile()", NONE, () -> y.about(6));
        y.compile();
        c.due("about(6)", 1, () -> y.about(6));
        row(y, 0);
        c.due("about(6) behind row()", NONE, () -> y.about(6));
        MatchCompile z = manyNodes(3);
        z.compile();
        c.due("about(6) of the most nodes", 300, () -> z.about(6));
    }

    @Says(in = "Promise 17", text = "NONE for another what.")
    static void p17anotherWhat(Check c) {
        MatchCompile x = natFull();
        for (int what : new int[] {-1, -2, 7, 8, 100, MIN, MAX}) {
            c.due("about(" + what + ")", NONE, () -> x.about(what));
        }
    }
}
