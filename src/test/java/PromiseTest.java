import java.util.Arrays;

/** Each promise by itself: ordinary inputs, the edges that the document names, wrong inputs. */
public final class PromiseTest extends Scenes {
    private static final Check CHECK = new Check("PromiseTest");

    private static void due(String what, Object want, Check.Call call) {
        CHECK.due(what, want, call);
    }

    private static void dueAbout(String when, String want, MatchCompile x) {
        due("about(0 .. 6) " + when, want, () -> about(x));
    }

    private static void newObject() {
        MatchCompile x = new MatchCompile();
        dueAbout("of a new object", "0 0 0 0 0 0 -1", x);
        due("missing() of a new object", NONE, x::missing);
        due("isEmpty(0) of a new object", INDEX, () -> x.isEmpty(0));
        due("compile() of a new object", STATE, x::compile);
        MatchCompile other = new MatchCompile();
        x.type();
        dueAbout("of another object", "0 0 0 0 0 0 -1", other);
    }

    private static void types() {
        MatchCompile x = new MatchCompile();
        for (int i = 0; i < 8; i++) {
            due("type()", i, x::type);
        }
        due("type() of eight", STATE, x::type);
        due("type() of eight once more", STATE, x::type);
        dueAbout("of eight types", "8 0 0 0 0 0 -1", x);
        MatchCompile y = nat();
        y.match(0, NONE, NONE);
        row(y, 0);
        y.sign(1);
        y.give(0);
        y.compile();
        due("type() with a match", 1, y::type);
        dueAbout("type() leaves the match", "2 2 1 1 1 1 3", y);
    }

    private static void makers() {
        MatchCompile x = new MatchCompile();
        due("maker() without types", INDEX, () -> x.maker(0, NONE, NONE, NONE));
        x.type();
        x.type();
        due("maker of type 0", 0, () -> x.maker(0, NONE, NONE, NONE));
        due("what stands behind NONE does not count", 1, () -> x.maker(1, NONE, 77, MIN));
        due("what stands behind the second NONE does not count", 2, () -> x.maker(0, 1, NONE, 77));
        due("three fields", 3, () -> x.maker(0, 1, 0, 1));
        int[][] wrong = {{2, -1, -1, -1}, {-1, -1, -1, -1}, {MIN, 0, 0, 0}, {MAX, 0, 0, 0}, {0, 2, -1, -1}, {0, -2, -1, -1},
            {0, 0, 2, -1}, {0, 0, -2, -1}, {0, 0, 0, 2}, {0, 0, 0, MIN}, {0, MAX, 0, 0}};
        for (int[] w : wrong) {
            due("maker(" + w[0] + ", " + w[1] + ", " + w[2] + ", " + w[3] + ")", INDEX, () -> x.maker(w[0], w[1], w[2], w[3]));
        }
        dueAbout("wrong makers leave nothing", "2 4 0 0 0 0 -1", x);
        x.match(0, NONE, NONE);
        due("a maker of two fields asks for as many", ARGUMENT, () -> row(x, 3, ANY, ANY));
        due("maker 1 has no fields", 0, () -> row(x, 2, 1));
        makerEndsMatch();
        mostMakers();
    }

    private static void makerEndsMatch() {
        MatchCompile x = nat();
        x.match(0, 0, NONE);
        row(x, 0, ANY);
        x.compile();
        x.sign(1);
        x.give(1);
        dueAbout("before a maker", "1 2 2 1 1 1 3", x);
        due("a wrong maker", INDEX, () -> x.maker(0, 5, NONE, NONE));
        dueAbout("a wrong maker leaves the match", "1 2 2 1 1 1 3", x);
        due("a maker", 2, () -> x.maker(0, NONE, NONE, NONE));
        dueAbout("the match goes with a new maker", "1 3 0 0 0 0 -1", x);
        due("sign() behind a new maker", STATE, () -> x.sign(ANY));
        due("row() behind a new maker", STATE, x::row);
        due("compile() behind a new maker", STATE, x::compile);
        due("node() behind a new maker", ELEMENT, () -> x.node(0, 0));
        due("missing() behind a new maker", NONE, x::missing);
        due("isIdle() behind a new maker", ELEMENT, () -> x.isIdle(0));
        due("answer() behind a new maker", STATE, x::answer);
        due("tests() behind a new maker", STATE, x::tests);
        x.match(0, NONE, NONE);
        dueAbout("of the next match", "1 3 1 0 0 0 -1", x);
        due("the next match is compiled anew", 1, x::compile);
    }

    private static void mostMakers() {
        MatchCompile x = new MatchCompile();
        for (int i = 0; i < 8; i++) {
            x.type();
        }
        for (int i = 0; i < 8; i++) {
            int number = i;
            due("maker of type 3", number, () -> x.maker(3, NONE, NONE, NONE));
        }
        due("a ninth maker of type 3", STATE, () -> x.maker(3, NONE, NONE, NONE));
        due("a ninth maker with a wrong field", INDEX, () -> x.maker(3, 8, NONE, NONE));
        for (int i = 8; i < 40; i++) {
            int number = i;
            due("maker of another type", number, () -> x.maker(4 + number % 4, number % 8, 0, 7));
        }
        x.match(3, NONE, NONE);
        due("a maker 41, type 0 has none", STATE, () -> x.maker(0, NONE, NONE, NONE));
        due("a maker 41 of a wrong type", INDEX, () -> x.maker(8, NONE, NONE, NONE));
        dueAbout("with 40 makers", "8 40 1 0 0 0 -1", x);
    }

    private static void emptyTypes() {
        MatchCompile x = new MatchCompile();
        x.type();
        x.type();
        x.type();
        due("a type without makers", true, () -> x.isEmpty(0));
        x.maker(0, 0, NONE, NONE);
        due("a type of itself alone", true, () -> x.isEmpty(0));
        x.maker(1, 2, NONE, NONE);
        x.maker(2, 1, NONE, NONE);
        due("two types of one another", true, () -> x.isEmpty(1) && x.isEmpty(2));
        x.maker(2, 2, 0, NONE);
        x.maker(0, NONE, NONE, NONE);
        due("a type with a plain maker", false, () -> x.isEmpty(0));
        due("type 1 still", true, () -> x.isEmpty(1));
        x.maker(2, 0, 0, 0);
        due("a type over a type", false, () -> x.isEmpty(2));
        due("a type over a type over a type", false, () -> x.isEmpty(1));
        for (int type : new int[] {-1, 3, 8, MIN, MAX}) {
            due("isEmpty(" + type + ")", INDEX, () -> x.isEmpty(type));
        }
        MatchCompile chain = new MatchCompile();
        for (int i = 0; i < 8; i++) {
            chain.type();
        }
        for (int i = 0; i < 7; i++) {
            chain.maker(i, i + 1, i + 1, i + 1);
        }
        due("a chain of eight without an end", true, () -> chain.isEmpty(0));
        chain.maker(7, NONE, NONE, NONE);
        for (int i = 0; i < 8; i++) {
            int type = i;
            due("a chain of eight with an end", false, () -> chain.isEmpty(type));
        }
    }

    private static void matches() {
        MatchCompile x = nat();
        x.type();
        int[][] wrong = {{-1, -1, -1}, {-1, 0, 0}, {2, 0, 0}, {0, 2, 0}, {0, 0, 2}, {-2, 0, 0}, {0, -2, 0}, {0, 0, -2}, {MIN, MAX, 0}};
        for (int[] w : wrong) {
            CHECK.dueAct("match(" + w[0] + ", " + w[1] + ", " + w[2] + ")", INDEX, () -> x.match(w[0], w[1], w[2]));
        }
        due("columns without a match", 0, () -> x.about(2));
        CHECK.dueAct("match of one column", "done", () -> x.match(0, NONE, 99));
        due("one column", 1, () -> x.about(2));
        CHECK.dueAct("match of two columns", "done", () -> x.match(0, 1, NONE));
        due("two columns", 2, () -> x.about(2));
        row(x, 0, ANY);
        x.compile();
        x.sign(1);
        x.give(0);
        CHECK.dueAct("a wrong match", INDEX, () -> x.match(0, 0, 2));
        dueAbout("a wrong match leaves the other", "2 2 2 1 1 1 3", x);
        CHECK.dueAct("match in the place of another", "done", () -> x.match(0, 0, 0));
        dueAbout("of a new match", "2 2 3 0 0 0 -1", x);
        due("no tree of the other match", ELEMENT, () -> x.node(0, 0));
    }

    private static void signsOfRows() {
        MatchCompile x = new MatchCompile();
        due("sign() without a match", STATE, () -> x.sign(ANY));
        x.type();
        x.type();
        x.maker(0, NONE, NONE, NONE);
        x.maker(0, 0, 1, 0);
        x.maker(1, NONE, NONE, NONE);
        x.match(0, 1, NONE);
        for (int sign : new int[] {2, 3, -3, 40, MIN, MAX}) {
            due("sign(" + sign + ") where type 0 is asked for", ARGUMENT, () -> x.sign(sign));
        }
        dueAbout("wrong signs do not come to the row", "2 3 2 0 0 0 -1", x);
        due("a maker", 1, () -> x.sign(1));
        due("its first field, EITHER", 2, () -> x.sign(EITHER));
        due("another type's maker", ARGUMENT, () -> x.sign(2));
        due("the first of EITHER", 3, () -> x.sign(0));
        due("the second asks for the same type", ARGUMENT, () -> x.sign(2));
        due("the second of EITHER", 4, () -> x.sign(ANY));
        due("its second field asks for type 1", ARGUMENT, () -> x.sign(0));
        due("its second field", 5, () -> x.sign(2));
        due("its third field", 6, () -> x.sign(0));
        due("the second column asks for type 1", ARGUMENT, () -> x.sign(0));
        due("the second column", 7, () -> x.sign(2));
        for (int sign : new int[] {ANY, EITHER, 0, 2, -3}) {
            due("sign(" + sign + ") behind the last column", ARGUMENT, () -> x.sign(sign));
        }
        due("signs in hand", 7, () -> x.about(4));
        due("the row", 0, x::row);
        due("signs in hand of a new row", 0, () -> x.about(4));
        fortySigns();
    }

    private static void fortySigns() {
        MatchCompile x = nat();
        x.match(0, NONE, NONE);
        for (int i = 1; i <= 40; i++) {
            int number = i;
            due("sign " + i, number, () -> x.sign(number < 40 ? 1 : ANY));
        }
        due("sign 41", STATE, () -> x.sign(ANY));
        due("sign 41, a wrong one", STATE, () -> x.sign(-7));
        due("a row of 40 signs", 0, x::row);
        for (int i = 0; i < 40; i++) {
            x.sign(EITHER);
        }
        due("sign 41 that is needed", STATE, () -> x.sign(0));
        due("40 signs and not whole", ARGUMENT, x::row);
        due("the row in hand is gone", 0, () -> x.about(4));
        due("the row of 40 signs makes a tree", 79, x::compile);
        give(x, 1, 1, 1, 0);
        due("no row takes 3", NONE, x::answer);
        due("tests of 3", 4, x::tests);
        give(x, thirtyNine());
        due("row 0 takes 39", 0, x::answer);
        due("tests of 39", 39, x::tests);
    }

    private static int[] thirtyNine() {
        int[] makers = new int[40];
        Arrays.fill(makers, 1);
        makers[39] = 0;
        return makers;
    }

    private static void rows() {
        MatchCompile x = nat();
        due("row() without a match", STATE, x::row);
        x.match(0, 0, NONE);
        due("row() without signs", ARGUMENT, x::row);
        signs(x, 0);
        due("row() with a column too few", ARGUMENT, x::row);
        due("the row in hand is gone", 0, () -> x.about(4));
        signs(x, ANY, 1);
        due("row() with a field too few", ARGUMENT, x::row);
        signs(x, ANY, EITHER, ANY);
        due("row() with half an EITHER", ARGUMENT, x::row);
        due("no rows yet", 0, () -> x.about(3));
        x.compile();
        due("row() that is not whole", ARGUMENT, x::row);
        due("leaves the tree", 1, () -> x.about(6));
        for (int i = 0; i < 12; i++) {
            int number = i;
            due("row " + number, number, () -> row(x, 0, ANY));
            due("the tree is gone", NONE, () -> x.about(6));
            due("compile()", 3, x::compile);
        }
        due("row 12", STATE, () -> row(x, 0, ANY));
        due("its signs stay in hand", 2, () -> x.about(4));
        due("rows", 12, () -> x.about(3));
        due("the tree stays", 3, () -> x.about(6));
        MatchCompile y = nat();
        y.match(0, NONE, NONE);
        for (int i = 0; i < 12; i++) {
            row(y, 0);
        }
        due("no whole row, and 12 rows", STATE, y::row);
    }

    private static void smallTree() {
        MatchCompile x = nat();
        due("compile() without a match", STATE, x::compile);
        x.match(0, 0, NONE);
        due("compile() without rows", 1, x::compile);
        due("a FAIL", "0 -1 -1 -1 -1 | -1 -1", () -> node(x, 0));
        row(x, 0, ANY);
        row(x, 1, ANY, 0);
        due("compile()", 5, x::compile);
        due("compile() once more", 5, x::compile);
        due("nodes", 5, () -> x.about(6));
        String[] nodes = {"2 0 2 0 2 1 2 | -1 -1", "1 0 -1 -1 -1 | 0 0", "2 0 2 1 2 3 4 | 0 1", "1 1 -1 -1 -1 | 2 0",
            "0 -1 -1 -1 -1 | 2 1"};
        for (int i = 0; i < nodes.length; i++) {
            int number = i;
            due("node " + i, nodes[i], () -> node(x, number));
        }
        for (int what : new int[] {-1, 7, 8, 99, 102, MIN, MAX}) {
            due("node(0, " + what + ")", NONE, () -> x.node(0, what));
            due("node(1, " + what + ")", NONE, () -> x.node(1, what));
            due("node(4, " + what + ")", NONE, () -> x.node(4, what));
        }
        for (int i : new int[] {-1, 5, 300, MIN, MAX}) {
            due("node(" + i + ", 0)", ELEMENT, () -> x.node(i, 0));
            due("node(" + i + ", 55)", ELEMENT, () -> x.node(i, 55));
        }
        due("missing()", 1, x::missing);
        due("missing case 0", "1 -1 1 -1", () -> missingCase(x, 0));
        row(x, ANY, ANY);
        due("node() without a tree", ELEMENT, () -> x.node(0, 0));
        due("missing() without a tree", NONE, x::missing);
    }

    /** The first EITHER of the first line is split first, and a line's two stay together. */
    private static void eithers() {
        MatchCompile x = nat();
        x.match(0, 0, NONE);
        row(x, EITHER, 1, 0, 0, EITHER, 0, 1, ANY);
        row(x, ANY, ANY);
        // lines: (1 0, 0), (1 0, 1 ANY), (0, 0), (0, 1 ANY), (ANY, ANY)
        String[] nodes = {"2 0 2 0 2 1 4 | -1 -1", "2 0 1 0 2 2 3 | 0 0", "1 0 -1 -1 -1 | 1 0", "1 0 -1 -1 -1 | 1 1",
            "2 0 2 0 2 5 8 | 0 1", "2 0 1 0 2 6 7 | 4 0", "1 0 -1 -1 -1 | 5 0", "1 0 -1 -1 -1 | 5 1", "1 1 -1 -1 -1 | 4 1"};
        due("compile()", nodes.length, x::compile);
        for (int i = 0; i < nodes.length; i++) {
            int number = i;
            due("node " + i, nodes[i], () -> node(x, number));
        }
        x.match(0, NONE, NONE);
        row(x, 1, EITHER, 0, 1, EITHER, 0, ANY);
        due("EITHERs inside are split when they come to stand by themselves", 7, x::compile);
        due("the inner one below", "2 0 1 0 2 5 6 | 2 1", () -> node(x, 4));
        due("its second pattern takes the rest", "1 0 -1 -1 -1 | 4 1", () -> node(x, 6));
        due("one case is missing", "1: 0", () -> x.missing() + ": " + missingCase(x, 0));
    }

    private static void deadMakers() {
        MatchCompile x = withDead();
        x.match(0, NONE, NONE);
        row(x, 3, ANY);
        row(x, 4, ANY, ANY, ANY);
        due("dead makers have no branch", 3, x::compile);
        due("a TEST of two branches", "2 0 1 0 2 1 2 | -1 -1", () -> node(x, 0));
        due("a row of a dead maker is idle", true, () -> x.isIdle(0) && x.isIdle(1));
        due("missing cases", "2: 0, 1 -1", () -> x.missing() + ": " + missingCase(x, 0) + ", " + missingCase(x, 1));
        x.match(1, NONE, NONE);
        row(x, 2, ANY, ANY);
        due("a TEST without branches", 1, x::compile);
        due("its node", "2 1 1 0 0 | -1 -1", () -> node(x, 0));
        due("no branch", NONE, () -> x.node(0, 5));
        due("no missing case", 0, x::missing);
        due("the row is idle", true, () -> x.isIdle(0));
        due("a dead maker may be given", 1, () -> x.give(2));
        due("but is never whole", ARGUMENT, x::tests);
        MatchCompile one = new MatchCompile();
        one.type();
        one.maker(0, NONE, NONE, NONE);
        one.match(0, 0, NONE);
        row(one, 0, 0);
        due("a TEST of one branch is a TEST", 3, one::compile);
        due("the LEAF has no places above it", "1 0 -1 -1 -1 | 1 0", () -> node(one, 2));
    }

    private static void sixtyLines() {
        MatchCompile x = nat();
        x.match(0, NONE, NONE);
        int[] twenty = new int[39];
        Arrays.fill(twenty, ANY);
        for (int i = 0; i < 19; i++) {
            twenty[i] = EITHER;
        }
        row(x, twenty);
        row(x, twenty);
        row(x, twenty);
        due("60 lines", 1, x::compile);
        row(x, ANY);
        due("61 lines", GREAT, x::compile);
        due("there is no tree", NONE, () -> x.about(6));
        due("nor a missing case", NONE, x::missing);
        due("nor a node", ELEMENT, () -> x.node(0, 0));
        due("nor an idle row", ELEMENT, () -> x.isIdle(0));
        MatchCompile y = nat();
        y.match(0, 0, NONE);
        row(y, ANY, ANY);
        row(y, eightEithers());
        due("64 lines of one row, behind a row of ANY", GREAT, y::compile);
    }

    /** 8 ANYs in each of two columns: 64 lines. */
    private static int[] eightEithers() {
        int[] signs = new int[30];
        for (int i = 0; i < 30; i++) {
            signs[i] = i % 15 < 7 ? EITHER : ANY;
        }
        return signs;
    }

    private static void fortyPlaces() {
        MatchCompile x = manyPlaces(NONE, SEVEN_OPENED);
        due("40 places", 20, x::compile);
        due("the last TEST has 38", "2 1 38 34 1 19 | 17 2", () -> node(x, 18));
        due("a LEAF of 40", "1 1 -1 -1 -1 | 18 1", () -> node(x, 19));
        due("row 0 is idle, row 1 is not", true, () -> x.isIdle(0) && !x.isIdle(1));
        MatchCompile y = manyPlaces(5, SIX_OPENED, 5, ANY, ANY);
        due("39 places and a two: 40", 20, y::compile);
        due("its last TEST has 39", "2 5 39 38 1 19 | 17 2", () -> node(y, 18));
        due("41 places", GREAT, manyPlaces(5, SEVEN_OPENED, ANY)::compile);
        due("39 places, a two, and more: 42", GREAT, manyPlaces(5, SEVEN_OPENED, 5, ANY, ANY)::compile);
    }

    private static void threeHundredNodes() {
        MatchCompile x = manyNodes(3);
        due("300 nodes", 300, x::compile);
        due("nodes", 300, () -> x.about(6));
        due("the last node", 0, () -> x.node(299, 0));
        due("node 300", ELEMENT, () -> x.node(300, 0));
        due("the last missing case", "7 15 -1", () -> missingCase(x, x.missing() - 1));
        MatchCompile y = manyNodes(4);
        due("301 nodes", GREAT, y::compile);
        due("no tree", NONE, () -> y.about(6));
        give(y, 0, 8, 16, 24);
        due("answer() without a tree", 0, y::answer);
        due("tests() without a tree", ELEMENT, y::tests);
        CHECK.dueAct("another match of the object", "done", () -> y.match(0, NONE, NONE));
        row(y, ANY);
        due("is compiled", 1, y::compile);
    }

    private static void deepTrees() {
        MatchCompile x = deepTree();
        due("294 TESTs, one below the other", 295, x::compile);
        for (int i = 0; i < 295; i++) {
            int number = i;
            due("node " + i + " is below the one before", number - 1, () -> x.node(number, 100));
        }
        due("a FAIL at the end", 0, () -> x.node(294, 0));
        due("its case has as many makers", 294L, () -> missingCase(x, 0).chars().filter(c -> c >= '0').count()
            - missingCase(x, 0).chars().filter(c -> c == '-').count());
        due("all rows are idle", true, () -> {
            boolean all = true;
            for (int row = 0; row < 12; row++) {
                all &= x.isIdle(row);
            }
            return all;
        });
        MatchCompile y = nat();
        y.match(0, 0, NONE);
        row(y, 1, 1, 1, 0, ANY);
        row(y, ANY, 1, 1, 1, 0);
        due("4 TESTs in front of 4", 41, y::compile);
        give(y, 1, 1, 1, 1, 0, 1, 1, 1, 0);
        due("all TESTs are made", 8, y::tests);
        due("the last row answers", 1, y::answer);
    }

    private static void missingCases() {
        MatchCompile x = new MatchCompile();
        due("missing() without a match", NONE, x::missing);
        due("missingSign() without a match", ELEMENT, () -> x.missingSign(0, 0));
        x.type();
        x.maker(0, NONE, NONE, NONE);
        x.maker(0, 0, 0, 0);
        x.match(0, 0, NONE);
        due("missingSign() without a tree", ELEMENT, () -> x.missingSign(0, 0));
        x.compile();
        due("all is missing", "1: -1 -1", () -> x.missing() + ": " + missingCase(x, 0));
        row(x, 1, ANY, 1, ANY, 0, ANY, ANY, 0);
        x.compile();
        String[] cases = {"0 -1", "1 -1 0 -1 -1", "1 -1 1 -1 0 -1 -1 1 -1 -1 -1", "1 -1 1 -1 1 -1 -1 -1 -1 -1 -1"};
        due("missing()", cases.length, x::missing);
        for (int k = cases.length - 1; k >= 0; k--) {
            int number = k;
            due("missing case " + k, cases[k], () -> missingCase(x, number));
        }
        for (int i : new int[] {2, 3, 400, MAX, -1, MIN}) {
            due("missingSign(0, " + i + ")", -3, () -> x.missingSign(0, i));
        }
        for (int k : new int[] {-1, 4, 300, MIN, MAX}) {
            due("missingSign(" + k + ", 0)", ELEMENT, () -> x.missingSign(k, 0));
        }
        due("missing case 0 once more", "0 -1", () -> missingCase(x, 0));
        row(x, 0, ANY);
        due("missingSign() when the tree is gone", ELEMENT, () -> x.missingSign(0, 0));
        x.compile();
        due("case 0 of another tree", "1 -1 0 -1 -1", () -> missingCase(x, 0));
    }

    private static void idleRows() {
        MatchCompile x = nat();
        due("isIdle() without a match", ELEMENT, () -> x.isIdle(0));
        x.match(0, NONE, NONE);
        row(x, 1, ANY);
        row(x, EITHER, 1, 0, 1, 1, ANY);
        row(x, EITHER, 1, 0, 0);
        row(x, ANY);
        due("isIdle() without a tree", ELEMENT, () -> x.isIdle(0));
        x.compile();
        String[] due = {"false", "true", "false", "true"};
        for (int row = 0; row < 4; row++) {
            int number = row;
            due("isIdle(" + row + ")", due[row], () -> x.isIdle(number));
        }
        for (int row : new int[] {-1, 4, 12, MIN, MAX}) {
            due("isIdle(" + row + ")", ELEMENT, () -> x.isIdle(row));
        }
    }

    private static void values() {
        MatchCompile x = new MatchCompile();
        due("give() without a match", STATE, () -> x.give(0));
        CHECK.dueAct("empty() without a match", "done", x::empty);
        x.type();
        x.type();
        x.maker(0, NONE, NONE, NONE);
        x.maker(0, 1, 0, NONE);
        x.maker(1, NONE, NONE, NONE);
        x.match(0, 1, NONE);
        for (int maker : new int[] {2, 3, ANY, EITHER, -3, 40, MIN, MAX}) {
            due("give(" + maker + ") where type 0 is asked for", ARGUMENT, () -> x.give(maker));
        }
        due("values in hand", 0, () -> x.about(5));
        due("a maker", 1, () -> x.give(1));
        due("its first field is of type 1", ARGUMENT, () -> x.give(0));
        due("its first field", 2, () -> x.give(2));
        due("its second field is of type 0", ARGUMENT, () -> x.give(2));
        due("its second field", 3, () -> x.give(0));
        due("column 1 is of type 1", ARGUMENT, () -> x.give(0));
        due("answer() of half the values", ARGUMENT, x::answer);
        due("column 1", 4, () -> x.give(2));
        due("behind the last column", ARGUMENT, () -> x.give(2));
        due("answer()", NONE, x::answer);
        due("they stay", 4, () -> x.about(5));
        row(x, ANY, ANY);
        due("they stay when a row comes", 4, () -> x.about(5));
        due("answer()", 0, x::answer);
        CHECK.dueAct("empty()", "done", x::empty);
        due("values in hand are gone", 0, () -> x.about(5));
        due("the rows are not", 1, () -> x.about(3));
        due("answer() without values", ARGUMENT, x::answer);
        due("a maker again", 1, () -> x.give(0));
        sixtyValues();
    }

    private static void sixtyValues() {
        MatchCompile x = nat();
        x.match(0, NONE, NONE);
        row(x, 1, 1, ANY);
        x.compile();
        for (int i = 1; i < 60; i++) {
            int number = i;
            due("give " + i, number, () -> x.give(1));
        }
        due("give 60", 60, () -> x.give(0));
        due("give 61", STATE, () -> x.give(0));
        due("give 61, a wrong one", STATE, () -> x.give(-5));
        due("answer() of 60", 0, x::answer);
        due("tests() of 60", 2, x::tests);
        x.empty();
        for (int i = 0; i < 60; i++) {
            x.give(1);
        }
        due("give 61 that is needed", STATE, () -> x.give(0));
        due("answer() of 60 that are not whole", ARGUMENT, x::answer);
        due("tests() of 60 that are not whole", ARGUMENT, x::tests);
    }

    private static void answers() {
        MatchCompile x = new MatchCompile();
        due("answer() without a match", STATE, x::answer);
        due("tests() without a match", STATE, x::tests);
        x.type();
        x.maker(0, NONE, NONE, NONE);
        x.maker(0, 0, 0, NONE);
        x.match(0, 0, NONE);
        due("tests(), not whole and no tree", ARGUMENT, x::tests);
        row(x, 1, EITHER, 0, 1, ANY, 0, 0, 0);
        row(x, 1, ANY, 1, ANY, ANY, ANY);
        row(x, EITHER, 0, 1, 0, 0, 1, 0, ANY);
        row(x, ANY, EITHER, EITHER, 1, 1, ANY, ANY, ANY, 0, 1, ANY, ANY);
        give(x, 1, 1, 0, 0, 0, 0);
        due("tests(), whole and no tree", ELEMENT, x::tests);
        due("EITHER's second", 0, x::answer);
        give(x, 1, 0, 0, 0);
        due("EITHER's first", 0, x::answer);
        give(x, 1, 1, 0, 1, 0, 0, 0, 0);
        due("no row but the last", 3, x::answer);
        give(x, 1, 0, 1, 0, 0, 0);
        due("row 1", 1, x::answer);
        give(x, 0, 1, 0, 1, 0, 0);
        due("row 2", 2, x::answer);
        give(x, 0, 1, 1, 0, 0, 0);
        due("row 3", 3, x::answer);
        due("compile() has a tree", true, () -> x.compile() > 5);
        due("tests()", 4, () -> {
            give(x, 1, 0, 0, 0);
            return x.tests();
        });
        due("tests() leaves the values", 4, () -> x.about(5));
        due("tests() once more", 4, x::tests);
        x.match(0, NONE, NONE);
        row(x, ANY);
        x.compile();
        x.give(0);
        due("a LEAF at once", 0, x::tests);
    }

    private static void abouts() {
        MatchCompile x = nat();
        x.match(0, 0, NONE);
        row(x, ANY, ANY);
        signs(x, 1, 1, 0);
        x.compile();
        x.give(1);
        x.give(0);
        dueAbout("of all", "1 2 2 1 3 2 1", x);
        for (int what : new int[] {-1, 7, 100, MIN, MAX}) {
            due("about(" + what + ")", NONE, () -> x.about(what));
        }
    }

    public static void main(String[] args) {
        newObject();
        types();
        makers();
        emptyTypes();
        matches();
        signsOfRows();
        rows();
        smallTree();
        eithers();
        deadMakers();
        sixtyLines();
        fortyPlaces();
        threeHundredNodes();
        deepTrees();
        missingCases();
        idleRows();
        values();
        answers();
        abouts();
        CHECK.end();
    }
}
