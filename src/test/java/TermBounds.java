import java.lang.reflect.InvocationTargetException;
import java.lang.reflect.Method;
import java.lang.reflect.Modifier;
import java.util.Arrays;

/** The boundary cases that the terms and the face name, a test for each; BoundaryTest runs them. */
final class TermBounds extends Scenes {
    private TermBounds() {
    }

    /** Type 0 with plain makers alone. */
    private static MatchCompile plainMakers(int count) {
        MatchCompile x = new MatchCompile();
        x.type();
        for (int i = 0; i < count; i++) {
            x.maker(0, NONE, NONE, NONE);
        }
        return x;
    }

    /** All nodes of the tree, each as node() of Scenes tells it. */
    private static void dueNodes(Check c, MatchCompile x, String... nodes) {
        c.due("compile()", nodes.length, x::compile);
        for (int i = 0; i < nodes.length; i++) {
            int node = i;
            c.due("node " + i, nodes[i], () -> node(x, node));
        }
    }

    private static void dueAnswer(Check c, int want, MatchCompile x, int... makers) {
        give(x, makers);
        c.due("answer() of " + Arrays.toString(makers), want, x::answer);
    }

    // What it is

    @Says(in = "What it is", text = "An object is used for at most 512 calls after it has been made")
    static void a1callsUpToThe512th(Check c) {
        MatchCompile x = nat();
        x.match(0, NONE, NONE);
        row(x, 1, 1, ANY);
        c.due("call 9", 5, x::compile);
        for (int call = 10; call < 512; call++) {
            int k = call % 2;
            c.due("call " + call, k, () -> x.missingSign(k, 0));
        }
        c.due("call 512", 5, x::compile);
    }

    // The public face

    @Says(in = "The public face", text = "public static final int NONE = -1;")
    static void a2noneIsMinusOne(Check c) {
        c.due("NONE", -1, () -> MatchCompile.NONE);
    }

    /** Objects in states that differ, from a new one to one whose match is TOO GREAT. */
    private static MatchCompile[] states() {
        MatchCompile matched = nat();
        matched.match(0, 0, NONE);
        MatchCompile inHand = nat();
        inHand.match(0, 0, NONE);
        row(inHand, 0, ANY);
        signs(inHand, 1, EITHER);
        inHand.give(1);
        MatchCompile compiled = nat();
        compiled.match(0, 0, NONE);
        row(compiled, 0, ANY);
        compiled.compile();
        give(compiled, 0, 0);
        MatchCompile left = withDead();
        left.match(0, 1, NONE);
        left.maker(0, NONE, NONE, NONE);
        MatchCompile tooGreat = nat();
        tooGreat.match(0, 0, NONE);
        row(tooGreat, anysOf(8, 8));
        Check.tell(tooGreat::compile);
        return new MatchCompile[] {new MatchCompile(), plainMakers(0), nat(), matched, inHand, compiled, left, tooGreat};
    }

    private static String thrownBy(MatchCompile x, Method method, int argument) {
        Object[] arguments = new Object[method.getParameterCount()];
        Arrays.fill(arguments, argument);
        try {
            method.invoke(x, arguments);
            return "nothing but what it names";
        } catch (InvocationTargetException e) {
            Class<?> thrown = e.getCause().getClass();
            boolean named = Arrays.asList(method.getExceptionTypes()).contains(thrown);
            return named ? "nothing but what it names" : thrown.getName();
        } catch (IllegalAccessException e) {
            return e.toString();
        }
    }

    @Says(in = "The public face", text = "throws IndexOutOfBoundsException, IllegalStateException;")
    static void a3nothingButTheNamedExceptions(Check c) {
        for (Method method : MatchCompile.class.getDeclaredMethods()) {
            if (!Modifier.isPublic(method.getModifiers())) {
                continue;
            }
            MatchCompile[] states = states();
            for (int i = 0; i < states.length; i++) {
                MatchCompile x = states[i];
                for (int argument : new int[] {MIN, MIN + 5, -4, -3, -2, -1, 0, 1, 2, 5, 8, 12, 40, 60, 100, 300, MAX}) {
                    c.due(method.getName() + " of " + argument + " in state " + i + " throws", "nothing but what it names",
                        () -> thrownBy(x, method, argument));
                }
            }
        }
    }

    @Says(in = "The public face", text = "public int missing();")
    static void a4missingThrowsNothing(Check c) {
        int[] due = {NONE, NONE, NONE, NONE, NONE, 1, NONE, NONE};
        MatchCompile[] states = states();
        for (int i = 0; i < states.length; i++) {
            c.due("missing() in state " + i, due[i], states[i]::missing);
        }
    }

    @Says(in = "The public face", text = "public void empty();")
    static void a5emptyThrowsNothing(Check c) {
        for (MatchCompile x : states()) {
            c.dueAct("empty()", "done", x::empty);
            c.due("about(5)", 0, () -> x.about(5));
        }
    }

    @Says(in = "The public face", text = "public int about(int what);")
    static void a6aboutThrowsNothing(Check c) {
        String[] due = {"0 0 0 0 0 0 -1", "1 0 0 0 0 0 -1", "1 2 0 0 0 0 -1", "1 2 2 0 0 0 -1", "1 2 2 1 2 1 -1",
            "1 2 2 1 0 2 3", "2 6 0 0 0 0 -1", "1 2 2 1 0 0 -1"};
        MatchCompile[] states = states();
        for (int i = 0; i < states.length; i++) {
            MatchCompile x = states[i];
            c.due("about(0 .. 6) in state " + i, due[i], () -> about(x));
        }
    }

    // Terms: types, makers, values

    @Says(in = "Terms", text = "TYPES, at most 8")
    static void b01eightTypes(Check c) {
        MatchCompile x = new MatchCompile();
        types(x, 8);
        c.due("a ninth type()", STATE, x::type);
        c.due("a maker of type 7", 0, () -> x.maker(7, 7, 0, 7));
        c.due("a column of type 7", "done", () -> match(x, 7, 0, 7));
        c.due("a column of type 8", INDEX, () -> match(x, 8, NONE, NONE));
    }

    @Says(in = "Terms", text = "have MAKERS, at most 8 each")
    static void b02eightMakersEach(Check c) {
        MatchCompile x = new MatchCompile();
        types(x, 2);
        for (int i = 0; i < 16; i++) {
            int number = i;
            c.due("maker of type " + number % 2, number, () -> x.maker(number % 2, NONE, NONE, NONE));
        }
        c.due("a ninth of type 0", STATE, () -> x.maker(0, NONE, NONE, NONE));
        c.due("a ninth of type 1", STATE, () -> x.maker(1, NONE, NONE, NONE));
        c.due("makers", 16, () -> x.about(1));
    }

    @Says(in = "Terms", text = "40 in all")
    static void b03fortyMakers(Check c) {
        MatchCompile x = new MatchCompile();
        types(x, 8);
        for (int i = 0; i < 40; i++) {
            int number = i;
            c.due("maker of type " + number / 8, number, () -> x.maker(number / 8, 7, 7, 7));
        }
        c.due("a maker of type 5", STATE, () -> x.maker(5, NONE, NONE, NONE));
        c.due("makers", 40, () -> x.about(1));
        c.due("all types are empty", true, () -> x.isEmpty(0) && x.isEmpty(5) && x.isEmpty(7));
    }

    @Says(in = "Terms", text = "numbered from 0 on through all types")
    static void b04numberedThroughAllTypes(Check c) {
        MatchCompile x = new MatchCompile();
        types(x, 3);
        int[] types = {2, 0, 2, 1, 0};
        for (int i = 0; i < types.length; i++) {
            int type = types[i];
            c.due("maker of type " + type, i, () -> x.maker(type, NONE, NONE, NONE));
        }
        for (int i = 0; i < types.length; i++) {
            x.match(types[i], NONE, NONE);
            int maker = i;
            c.due("sign(" + maker + ") for its type", 1, () -> x.sign(maker));
        }
    }

    @Says(in = "Terms", text = "a maker has 0 to 3 FIELDS, each of a type.")
    static void b05noFieldsToThree(Check c) {
        MatchCompile x = plainMakers(1);
        types(x, 2);
        x.maker(0, 1, NONE, NONE);
        x.maker(0, 1, 2, NONE);
        x.maker(0, 2, 1, 2);
        x.maker(1, NONE, NONE, NONE);
        x.maker(2, NONE, NONE, NONE);
        x.match(0, NONE, NONE);
        int[][] values = {{0}, {1, 4}, {2, 4, 5}, {3, 5, 4, 5}};
        for (int[] value : values) {
            dueAnswer(c, NONE, x, value);
            c.due("one more behind " + Arrays.toString(value), ARGUMENT, () -> x.give(4));
            give(x, Arrays.copyOf(value, value.length - 1));
            c.due("answer() with one less", ARGUMENT, x::answer);
        }
    }

    @Says(in = "Terms", text = "A VALUE of a type is a maker of it with a value for each field, "
        + "written as a row of maker numbers: the maker, then its fields' values.")
    static void b06valuesInARow(Check c) {
        MatchCompile x = plainMakers(2);
        x.maker(0, 0, 0, NONE);
        x.match(0, 0, NONE);
        row(x, 2, 2, ANY, 0, 1, 2, 1, 2, ANY, 0);
        dueAnswer(c, 0, x, 2, 2, 1, 0, 1, 2, 1, 2, 1, 0);
        dueAnswer(c, 0, x, 2, 2, 2, 0, 1, 0, 1, 2, 1, 2, 0, 0);
        dueAnswer(c, NONE, x, 2, 2, 0, 1, 1, 2, 1, 2, 1, 0);
        dueAnswer(c, NONE, x, 2, 1, 2, 0, 1, 2, 1, 2, 1, 0);
        give(x, 2, 2, 1, 0, 1, 2, 1, 2, 1);
        c.due("answer() of all but the last", ARGUMENT, x::answer);
    }

    @Says(in = "Terms", text = "A type is EMPTY if it has no value (none can be made in finitely many steps)")
    static void b07emptyTypes(Check c) {
        MatchCompile x = new MatchCompile();
        types(x, 8);
        x.maker(0, 0, NONE, NONE);
        c.due("a type of itself alone", true, () -> x.isEmpty(0));
        x.maker(1, 2, NONE, NONE);
        x.maker(2, 1, NONE, NONE);
        c.due("two types of one another", true, () -> x.isEmpty(1) && x.isEmpty(2));
        for (int i = 3; i < 7; i++) {
            x.maker(i, i + 1, i + 1, i + 1);
        }
        c.due("a chain without an end", true, () -> x.isEmpty(3));
        x.maker(7, NONE, NONE, NONE);
        c.due("a chain with an end", false, () -> x.isEmpty(3) || x.isEmpty(4) || x.isEmpty(5) || x.isEmpty(6));
        x.maker(2, 3, 7, 0);
        c.due("an empty field behind two that are not", true, () -> x.isEmpty(2));
        x.maker(0, 0, 3, NONE);
        c.due("itself and another", true, () -> x.isEmpty(0));
        x.maker(0, 3, NONE, NONE);
        c.due("a maker without an empty field", false, () -> x.isEmpty(0) || x.isEmpty(1) || x.isEmpty(2));
        MatchCompile longest = new MatchCompile();
        types(longest, 8);
        for (int i = 7; i > 0; i--) {
            longest.maker(i, i - 1, i - 1, i - 1);
        }
        c.due("a chain of eight without an end", true, () -> longest.isEmpty(7));
        longest.maker(0, NONE, NONE, NONE);
        c.due("a chain of eight with an end", false, () -> longest.isEmpty(7));
    }

    @Says(in = "Terms", text = "a maker is DEAD if a field's type is empty.")
    static void b08deadMakers(Check c) {
        MatchCompile x = plainMakers(1);
        types(x, 1);
        x.maker(0, 1, 0, 0);
        x.maker(0, 0, 1, 0);
        x.maker(0, 0, 0, 1);
        x.maker(0, 0, 0, 0);
        x.match(0, NONE, NONE);
        row(x, 1, ANY, ANY, ANY);
        dueNodes(c, x, "2 0 1 0 2 1 2 | -1 -1", "0 -1 -1 -1 -1 | 0 0", "0 -1 -1 -1 -1 | 0 4");
        x.maker(1, NONE, NONE, NONE);
        x.match(0, NONE, NONE);
        row(x, 1, ANY, ANY, ANY);
        c.due("compile() when the type has a value", 6, x::compile);
        c.due("no maker is dead then", 5, () -> x.node(0, 4));
    }

    // Terms: patterns

    @Says(in = "Terms", text = "ANY, which takes all values")
    static void b09anyTakesAll(Check c) {
        MatchCompile x = nat();
        x.match(0, 0, NONE);
        row(x, ANY, ANY);
        x.compile();
        dueAnswer(c, 0, x, 0, 0);
        int[] longest = new int[60];
        Arrays.fill(longest, 1, 59, 1);
        dueAnswer(c, 0, x, longest);
        c.due("tests() of 60 makers", 0, x::tests);
    }

    @Says(in = "Terms", text = "a maker of it with a pattern for each field, which takes the values of that maker "
        + "whose fields are taken by these")
    static void b10makersTakeTheirs(Check c) {
        MatchCompile x = plainMakers(2);
        x.maker(0, 0, 0, 0);
        x.match(0, NONE, NONE);
        row(x, 2, 0, ANY, 1);
        dueAnswer(c, 0, x, 2, 0, 0, 1);
        dueAnswer(c, 0, x, 2, 0, 2, 0, 0, 0, 1);
        dueAnswer(c, NONE, x, 2, 1, 0, 1);
        dueAnswer(c, NONE, x, 2, 0, 0, 0);
        dueAnswer(c, NONE, x, 2, 0, 1, 2, 0, 0, 1);
        dueAnswer(c, NONE, x, 0);
        dueAnswer(c, NONE, x, 1);
        MatchCompile deep = nat();
        deep.match(0, NONE, NONE);
        int[] thirtyNine = new int[40];
        Arrays.fill(thirtyNine, 0, 39, 1);
        row(deep, thirtyNine);
        dueAnswer(c, 0, deep, thirtyNine);
        dueAnswer(c, NONE, deep, Arrays.copyOfRange(thirtyNine, 1, 40));
    }

    @Says(in = "Terms", text = "EITHER of two patterns, which takes what one of them takes.")
    static void b11eitherTakesWhatOneTakes(Check c) {
        MatchCompile x = plainMakers(4);
        x.maker(0, 0, NONE, NONE);
        x.match(0, NONE, NONE);
        row(x, EITHER, 0, EITHER, 4, EITHER, 1, 2, 2);
        dueAnswer(c, 0, x, 0);
        dueAnswer(c, NONE, x, 1);
        dueAnswer(c, 0, x, 2);
        dueAnswer(c, NONE, x, 3);
        dueAnswer(c, NONE, x, 4, 0);
        dueAnswer(c, 0, x, 4, 1);
        dueAnswer(c, 0, x, 4, 2);
        dueAnswer(c, NONE, x, 4, 4, 1);
        x.match(0, NONE, NONE);
        int[] nineteen = new int[39];
        Arrays.fill(nineteen, 0, 19, EITHER);
        Arrays.fill(nineteen, 19, 39, 1);
        nineteen[19] = 0;
        nineteen[38] = 2;
        row(x, nineteen);
        dueAnswer(c, 0, x, 0);
        dueAnswer(c, 0, x, 1);
        dueAnswer(c, 0, x, 2);
        dueAnswer(c, NONE, x, 3);
        c.due("compile() of 20 lines", 6, x::compile);
        c.due("the LEAF of the last line", "1 0 -1 -1 -1 | 0 2", () -> node(x, 3));
    }

    @Says(in = "Terms", text = "They are written as a row of signs: ANY is -1")
    static void b12anyIsMinusOne(Check c) {
        MatchCompile x = nat();
        x.match(0, NONE, NONE);
        c.due("row() of -1", 0, () -> row(x, -1));
        dueAnswer(c, 0, x, 1, 1, 0);
        c.due("give(-1)", ARGUMENT, () -> {
            x.empty();
            return x.give(-1);
        });
    }

    @Says(in = "Terms", text = "EITHER is -2, then the two")
    static void b13eitherIsMinusTwo(Check c) {
        MatchCompile x = nat();
        x.match(0, NONE, NONE);
        signs(x, -2, 1, 1, 0);
        c.due("row() with the first alone", ARGUMENT, x::row);
        c.due("row() with the two", 0, () -> row(x, -2, 1, 1, 0, 0));
        dueAnswer(c, 0, x, 0);
        dueAnswer(c, 0, x, 1, 1, 0);
        dueAnswer(c, NONE, x, 1, 0);
    }

    @Says(in = "Terms", text = "a maker is its number, then its fields' patterns.")
    static void b14makersAndTheirFields(Check c) {
        MatchCompile x = nat();
        x.maker(0, 0, 0, 0);
        x.match(0, NONE, NONE);
        signs(x, 2, 1, 0, EITHER, 0, 1, ANY);
        c.due("row() with a field too few", ARGUMENT, x::row);
        c.due("row() with all fields", 0, () -> row(x, 2, 1, 0, EITHER, 0, 1, ANY, 0));
        dueAnswer(c, 0, x, 2, 1, 0, 1, 1, 0, 0);
        dueAnswer(c, NONE, x, 2, 1, 1, 0, 0, 0);
    }

    // Terms: matches

    @Says(in = "Terms", text = "A MATCH has 1 to 3 COLUMNS, each of a type")
    static void b15oneToThreeColumns(Check c) {
        MatchCompile x = nat();
        types(x, 1);
        x.maker(1, NONE, NONE, NONE);
        c.due("match() of none", INDEX, () -> match(x, NONE, NONE, NONE));
        c.due("columns", 0, () -> x.about(2));
        c.due("match() of one", "done", () -> match(x, 1, NONE, NONE));
        dueAnswer(c, NONE, x, 2);
        c.due("match() of two", "done", () -> match(x, 1, 0, NONE));
        dueAnswer(c, NONE, x, 2, 0);
        c.due("match() of three", "done", () -> match(x, 0, 1, 0));
        dueAnswer(c, NONE, x, 1, 0, 2, 0);
        c.due("columns", 3, () -> x.about(2));
    }

    @Says(in = "Terms", text = "and ROWS, at most 12, each with a pattern for each column.")
    static void b16twelveRows(Check c) {
        MatchCompile x = plainMakers(1);
        x.match(0, 0, 0);
        for (int i = 0; i < 12; i++) {
            signs(x, 0, ANY);
            c.due("row() of two patterns", ARGUMENT, x::row);
            c.due("row() of three", i, () -> row(x, 0, ANY, 0));
        }
        c.due("a thirteenth row()", STATE, () -> row(x, 0, ANY, 0));
        c.due("rows", 12, () -> x.about(3));
    }

    @Says(in = "Terms", text = "A row takes values for the columns if each pattern takes its one.")
    static void b17eachPatternTakesItsOne(Check c) {
        MatchCompile x = plainMakers(2);
        x.match(0, 0, 0);
        row(x, 0, 1, 0);
        x.compile();
        for (int i = 0; i < 8; i++) {
            dueAnswer(c, i == 2 ? 0 : NONE, x, i / 4, i / 2 % 2, i % 2);
        }
    }

    @Says(in = "Terms", text = "The first row that takes them ANSWERS.")
    static void b18theFirstRowAnswers(Check c) {
        MatchCompile x = nat();
        x.match(0, NONE, NONE);
        row(x, 1, 1, ANY);
        row(x, 1, ANY);
        row(x, ANY);
        row(x, 0);
        dueAnswer(c, 2, x, 0);
        dueAnswer(c, 1, x, 1, 0);
        dueAnswer(c, 0, x, 1, 1, 0);
    }

    // Terms: the tree

    @Says(in = "Terms", text = "THE TREE. A WORKING TABLE has PLACES (at first the columns, from left to right)")
    static void b19placesAreTheColumns(Check c) {
        MatchCompile x = plainMakers(1);
        types(x, 2);
        x.maker(1, NONE, NONE, NONE);
        x.maker(2, NONE, NONE, NONE);
        x.match(2, NONE, NONE);
        row(x, 2);
        dueNodes(c, x, "2 2 1 0 1 1 | -1 -1", "1 0 -1 -1 -1 | 0 2");
        x.match(2, 0, NONE);
        row(x, ANY, 0);
        dueNodes(c, x, "2 0 2 1 1 1 | -1 -1", "1 0 -1 -1 -1 | 0 0");
        x.match(0, 2, 1);
        row(x, ANY, 2, 1);
        dueNodes(c, x, "2 2 3 1 1 1 | -1 -1", "2 1 2 1 1 2 | 0 2", "1 0 -1 -1 -1 | 1 1");
    }

    @Says(in = "Terms", text = "and LINES (at first the rows, with their patterns).")
    static void b20linesAreTheRows(Check c) {
        MatchCompile x = plainMakers(8);
        x.match(0, NONE, NONE);
        c.due("compile() without rows", 1, x::compile);
        for (int i = 0; i < 12; i++) {
            row(x, i % 8);
        }
        c.due("compile() of 12 rows", 9, x::compile);
        for (int i = 0; i < 8; i++) {
            int maker = i;
            c.due("the LEAF of maker " + maker, "1 " + maker + " -1 -1 -1 | 0 " + maker, () -> node(x, 1 + maker));
        }
    }

    @Says(in = "Terms", text = "EITHERs first: as long as a line has an EITHER by itself at a place")
    static void b21asLongAsThereIsAnEither(Check c) {
        MatchCompile x = plainMakers(3);
        x.match(0, 0, NONE);
        row(x, EITHER, EITHER, 2, 1, 0, EITHER, 0, EITHER, 1, 2);
        c.due("compile() of 9 lines", 13, x::compile);
        c.due("nothing is missing", 0, x::missing);
        c.due("EITHERs of ANY alone are no TEST", 1, () -> {
            x.match(0, 0, 0);
            row(x, anysOf(3, 4, 5));
            return x.compile();
        });
        MatchCompile dead = withDead();
        dead.match(0, NONE, NONE);
        for (int i = 0; i < 4; i++) {
            dead.sign(3);
            row(dead, anysOf(19));
        }
        c.due("EITHERs inside a maker that is never opened are no lines", 3, dead::compile);
    }

    @Says(in = "Terms", text = "the first such line, at its first such place, becomes two lines, with the first and with "
        + "the second pattern there, one behind the other (of the same row).")
    static void b22firstLineFirstPlace(Check c) {
        MatchCompile x = nat();
        x.match(0, 0, NONE);
        row(x, EITHER, 1, 0, 0, EITHER, 0, 1, ANY);
        row(x, ANY, ANY);
        // lines: (1 0, 0), (1 0, 1 ANY), (0, 0), (0, 1 ANY), (ANY, ANY)
        dueNodes(c, x, "2 0 2 0 2 1 4 | -1 -1", "2 0 1 0 2 2 3 | 0 0", "1 0 -1 -1 -1 | 1 0", "1 0 -1 -1 -1 | 1 1",
            "2 0 2 0 2 5 8 | 0 1", "2 0 1 0 2 6 7 | 4 0", "1 0 -1 -1 -1 | 5 0", "1 0 -1 -1 -1 | 5 1", "1 1 -1 -1 -1 | 4 1");
        x.match(0, 0, 0);
        row(x, ANY, EITHER, 0, ANY, EITHER, ANY, 1, 0);
        // lines: (ANY, 0, ANY), (ANY, 0, 1 0), (ANY, ANY, ANY), (ANY, ANY, 1 0)
        dueNodes(c, x, "2 0 3 1 2 1 2 | -1 -1", "1 0 -1 -1 -1 | 0 0", "1 0 -1 -1 -1 | 0 1");
    }

    @Says(in = "Terms", text = "Above 60 lines")
    static void b23sixtyLines(Check c) {
        MatchCompile x = nat();
        x.match(0, 0, NONE);
        row(x, anysOf(6, 10));
        c.due("compile() of a row of 60 lines", 1, x::compile);
        row(x, 0, 0);
        c.due("compile() of 61 lines, the first of ANYs", GREAT, x::compile);
        x.match(0, 0, NONE);
        row(x, anysOf(8, 8));
        c.due("compile() of a row of 64 lines", GREAT, x::compile);
        MatchCompile y = nat();
        y.match(0, NONE, NONE);
        for (int i = 0; i < 3; i++) {
            y.sign(1);
            row(y, anysOf(20));
        }
        row(y, 0);
        c.due("compile() with 60 lines in a branch", 3, y::compile);
        row(y, ANY);
        c.due("compile() with 61 lines in a branch", GREAT, y::compile);
    }

    @Says(in = "Terms", text = "or 40 places: TOO GREAT.")
    static void b24fortyPlaces(Check c) {
        MatchCompile leaf = manyPlaces(NONE, SEVEN_OPENED);
        c.due("compile() with a LEAF of 40 places", 20, leaf::compile);
        c.due("the LEAF", 1, () -> leaf.node(19, 0));
        c.due("compile() with a LEAF of 41 places", GREAT, manyPlaces(5, SEVEN_OPENED, ANY)::compile);
        MatchCompile test = manyPlaces(5, SIX_OPENED, 5, ANY, 0);
        c.due("compile() with a TEST of 40 places", 21, test::compile);
        c.due("the TEST", "2 0 40 39 1 20 | 18 5", () -> node(test, 19));
        MatchCompile fail = manyPlaces(6, SIX_OPENED, 6);
        c.due("compile() with a FAIL of 40 places", 21, fail::compile);
        c.due("the FAIL", "0 -1 -1 -1 -1 | 18 7", () -> node(fail, 20));
        c.due("compile() with 41 places without lines", GREAT, manyPlaces(7, SIX_OPENED, 8)::compile);
    }

    @Says(in = "Terms", text = "No lines: a node FAIL.")
    static void b25noLines(Check c) {
        MatchCompile x = nat();
        for (int columns = 1; columns <= 3; columns++) {
            x.match(0, columns > 1 ? 0 : NONE, columns > 2 ? 0 : NONE);
            dueNodes(c, x, "0 -1 -1 -1 -1 | -1 -1");
        }
        row(x, 0, ANY, 0);
        dueNodes(c, x, "2 0 3 0 2 1 4 | -1 -1", "2 0 2 1 2 2 3 | 0 0", "1 0 -1 -1 -1 | 1 0", "0 -1 -1 -1 -1 | 1 1",
            "0 -1 -1 -1 -1 | 0 1");
        MatchCompile empty = plainMakers(0);
        empty.match(0, NONE, NONE);
        dueNodes(c, empty, "0 -1 -1 -1 -1 | -1 -1");
    }

    @Says(in = "Terms", text = "The first line has ANY at all places: a node LEAF with its row.")
    static void b26anyAtAllPlaces(Check c) {
        MatchCompile x = nat();
        for (int columns = 1; columns <= 3; columns++) {
            x.match(0, columns > 1 ? 0 : NONE, columns > 2 ? 0 : NONE);
            anys(x, columns);
            x.row();
            dueNodes(c, x, "1 0 -1 -1 -1 | -1 -1");
        }
        MatchCompile one = plainMakers(1);
        one.match(0, NONE, NONE);
        row(one, 0);
        row(one, ANY);
        dueNodes(c, one, "2 0 1 0 1 1 | -1 -1", "1 0 -1 -1 -1 | 0 0");
        MatchCompile empty = plainMakers(0);
        empty.match(0, NONE, NONE);
        row(empty, ANY);
        dueNodes(c, empty, "1 0 -1 -1 -1 | -1 -1");
    }

    @Says(in = "Terms", text = "Else the first place where the first line has a maker: a node TEST of that place.")
    static void b27theFirstPlaceOfTheFirstLine(Check c) {
        MatchCompile x = plainMakers(2);
        x.match(0, 0, 0);
        row(x, ANY, ANY, 1);
        row(x, 1, ANY, ANY);
        dueNodes(c, x, "2 0 3 2 2 1 4 | -1 -1", "2 0 2 0 2 2 3 | 0 0", "0 -1 -1 -1 -1 | 1 0", "1 1 -1 -1 -1 | 1 1",
            "1 0 -1 -1 -1 | 0 1");
        x.match(0, 0, 0);
        row(x, 1, ANY, 1);
        dueNodes(c, x, "2 0 3 0 2 1 2 | -1 -1", "0 -1 -1 -1 -1 | 0 0", "2 0 2 1 2 3 4 | 0 1", "0 -1 -1 -1 -1 | 2 0",
            "1 0 -1 -1 -1 | 2 1");
    }

    @Says(in = "Terms", text = "Its BRANCHES, for each maker of the place's type, in order, that is not DEAD")
    static void b28branches(Check c) {
        MatchCompile x = new MatchCompile();
        types(x, 3);
        int[][] makers = {{0, 2}, {1, NONE}, {0, NONE}, {2, 2}, {0, 2}, {1, NONE}, {0, 1}, {0, 2}};
        for (int[] m : makers) {
            x.maker(m[0], m[1], NONE, NONE);
        }
        x.match(0, NONE, NONE);
        row(x, 4, ANY);
        dueNodes(c, x, "2 0 1 0 2 1 2 | -1 -1", "0 -1 -1 -1 -1 | 0 2", "0 -1 -1 -1 -1 | 0 6");
        MatchCompile most = plainMakers(8);
        most.match(0, NONE, NONE);
        row(most, 7);
        c.due("compile()", 9, most::compile);
        c.due("eight branches", "2 0 1 0 8 1 2 3 4 5 6 7 8 | -1 -1", () -> node(most, 0));
        c.due("the last branch", "1 0 -1 -1 -1 | 0 7", () -> node(most, 8));
    }

    @Says(in = "Terms", text = "the place gives way to places for the maker's fields, in order, in its stead")
    static void b29placesForTheFields(Check c) {
        MatchCompile x = plainMakers(1);
        types(x, 2);
        x.maker(1, NONE, NONE, NONE);
        x.maker(2, 0, 1, 2);
        x.maker(2, NONE, NONE, NONE);
        x.match(0, 2, 1);
        row(x, ANY, 2, 0, 1, 3, 1);
        c.due("compile()", 8, x::compile);
        c.due("the middle one of 3", "2 2 3 1 2 1 7 | -1 -1", () -> node(x, 0));
        c.due("field 0, of type 0, in its stead", "2 0 5 1 1 2 | 0 2", () -> node(x, 1));
        c.due("no fields: a place fewer, field 1", "2 1 4 1 1 3 | 1 0", () -> node(x, 2));
        c.due("field 2", "2 2 3 1 2 4 5 | 2 1", () -> node(x, 3));
    }

    @Says(in = "Terms", text = "of the lines those that have ANY there (with ANYs for the fields) or that maker "
        + "(with its patterns) stay, in order")
    static void b30linesThatStay(Check c) {
        MatchCompile x = nat();
        x.match(0, 0, NONE);
        row(x, 1, 0, 0);
        row(x, ANY, 1, ANY);
        row(x, 0, ANY);
        row(x, 1, ANY, ANY);
        dueNodes(c, x, "2 0 2 0 2 1 4 | -1 -1", "2 0 1 0 2 2 3 | 0 0", "1 2 -1 -1 -1 | 1 0", "1 1 -1 -1 -1 | 1 1",
            "2 0 2 0 2 5 8 | 0 1", "2 0 1 0 2 6 7 | 4 0", "1 0 -1 -1 -1 | 5 0", "1 1 -1 -1 -1 | 5 1",
            "2 0 2 1 2 9 10 | 4 1", "1 3 -1 -1 -1 | 8 0", "1 1 -1 -1 -1 | 8 1");
    }

    @Says(in = "Terms", text = "the branch is the tree of that table.")
    static void b31deepestBranch(Check c) {
        MatchCompile x = deepTree();
        c.due("compile() of 294 TESTs, one below the other", 295, x::compile);
        c.due("the last is a branch of the one before", 293, () -> x.node(294, 100));
        c.due("and a FAIL", 0, () -> x.node(294, 0));
        MatchCompile y = deepTree(true);
        c.due("compile() of a branch as deep, and a last one", 297, y::compile);
        c.due("the deepest node", "0 -1 -1 -1 -1 | 294 1", () -> node(y, 295));
        c.due("the last branch of node 0", "0 -1 -1 -1 -1 | 0 8", () -> node(y, 296));
        c.due("its missing case", "8 -1 -1", () -> missingCase(y, 1));
    }

    @Says(in = "Terms", text = "Fewer makers than two that are not DEAD: it is a TEST all the same")
    static void b32aTestOfOneBranch(Check c) {
        MatchCompile x = plainMakers(1);
        types(x, 1);
        x.maker(0, 1, NONE, NONE);
        x.match(0, 0, NONE);
        row(x, 0, 0);
        row(x, 1, ANY, ANY);
        dueNodes(c, x, "2 0 2 0 1 1 | -1 -1", "2 0 1 0 1 2 | 0 0", "1 0 -1 -1 -1 | 1 0");
        give(x, 0, 0);
        c.due("tests()", 2, x::tests);
    }

    @Says(in = "Terms", text = "(with none: it has no branches).")
    static void b33aTestOfNoBranch(Check c) {
        MatchCompile x = plainMakers(1);
        types(x, 1);
        x.maker(1, 1, NONE, NONE);
        x.match(0, 1, NONE);
        row(x, ANY, 1, ANY);
        row(x, ANY, ANY);
        dueNodes(c, x, "2 1 2 1 0 | -1 -1");
        c.due("missing()", 0, x::missing);
        c.due("isIdle() of both", true, () -> x.isIdle(0) && x.isIdle(1));
    }

    @Says(in = "Terms", text = "NODES are numbered from 0 on as they begin, a TEST ahead of its branches, these in order.")
    static void b34numbersOfNodes(Check c) {
        MatchCompile x = plainMakers(3);
        x.match(0, 0, NONE);
        row(x, 0, 1);
        row(x, 2, 2);
        dueNodes(c, x, "2 0 2 0 3 1 5 6 | -1 -1", "2 0 1 0 3 2 3 4 | 0 0", "0 -1 -1 -1 -1 | 1 0", "1 0 -1 -1 -1 | 1 1",
            "0 -1 -1 -1 -1 | 1 2", "0 -1 -1 -1 -1 | 0 1", "2 0 1 0 3 7 8 9 | 0 2", "0 -1 -1 -1 -1 | 6 0",
            "0 -1 -1 -1 -1 | 6 1", "1 1 -1 -1 -1 | 6 2");
    }

    @Says(in = "Terms", text = "More than 300 nodes: TOO GREAT.")
    static void b35threeHundredNodes(Check c) {
        MatchCompile x = manyNodes(3);
        c.due("compile() of 300 nodes", 300, x::compile);
        c.due("the last node", 0, () -> x.node(299, 0));
        MatchCompile y = manyNodes(4);
        c.due("compile() of 301 nodes", GREAT, y::compile);
        c.due("about(6)", NONE, () -> y.about(6));
    }

    // Terms: missing cases and idle rows

    @Says(in = "Terms", text = "A MISSING CASE is a FAIL: a pattern for each column that tells what was tested on the way "
        + "there: the makers that were found, ANY where nothing was tested.")
    static void b36whatWasTested(Check c) {
        MatchCompile x = nat();
        x.maker(0, 0, 0, 0);
        x.match(0, 0, 0);
        x.compile();
        c.due("nothing was tested", "-1 -1 -1", () -> missingCase(x, 0));
        row(x, ANY, 2, ANY, 0, ANY, 1, ANY);
        row(x, ANY, EITHER, 0, 1, ANY, ANY);
        x.compile();
        String[] cases = {"-1 2 -1 0 -1 0", "-1 2 -1 0 -1 2 -1 -1 -1", "-1 2 -1 1 -1 -1 -1", "-1 2 -1 2 -1 -1 -1 -1 -1"};
        c.due("missing()", cases.length, x::missing);
        for (int k = 0; k < cases.length; k++) {
            int number = k;
            c.due("missing case " + k, cases[k], () -> missingCase(x, number));
        }
    }

    @Says(in = "Terms", text = "They are numbered as their nodes.")
    static void b37numbersOfCases(Check c) {
        MatchCompile x = plainMakers(8);
        x.match(0, NONE, NONE);
        row(x, EITHER, 3, 6);
        x.compile();
        int[] missing = {0, 1, 2, 4, 5, 7};
        c.due("missing()", missing.length, x::missing);
        for (int k = missing.length - 1; k >= 0; k--) {
            int number = k;
            c.due("missingSign(" + k + ", 0)", missing[k], () -> x.missingSign(number, 0));
        }
        MatchCompile most = manyNodes(3);
        most.compile();
        c.due("the first of many", "0 8 16 25", () -> missingCase(most, 0));
        c.due("the last of many", "7 15 -1", () -> missingCase(most, most.missing() - 1));
    }

    @Says(in = "Terms", text = "A row is IDLE if it is at no LEAF.")
    static void b38idleRows(Check c) {
        MatchCompile x = withDead();
        x.match(0, NONE, NONE);
        row(x, 3, ANY);
        row(x, 1, ANY);
        row(x, 1, 0);
        row(x, EITHER, 1, ANY, 0);
        row(x, 0);
        row(x, ANY);
        x.compile();
        boolean[] idle = {true, false, true, false, true, true};
        for (int i = 0; i < idle.length; i++) {
            int row = i;
            c.due("isIdle(" + row + ")", idle[row], () -> x.isIdle(row));
        }
    }
}
