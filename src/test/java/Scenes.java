import java.util.ArrayList;
import java.util.Collections;
import java.util.List;
import java.util.StringJoiner;

/** Objects that tests begin with, and answers of many calls told as one text. */
abstract class Scenes {
    static final String STATE = "throws.IllegalStateException";
    static final String ARGUMENT = "throws.IllegalArgumentException";
    static final String INDEX = "throws.IndexOutOfBoundsException";
    static final String ELEMENT = "throws.NoSuchElementException";
    static final String GREAT = "throws.UnsupportedOperationException";
    static final int NONE = MatchCompile.NONE;
    static final int ANY = -1;
    static final int EITHER = -2;
    static final int MIN = Integer.MIN_VALUE;
    static final int MAX = Integer.MAX_VALUE;

    /** Patterns of type 3 in manyPlaces(): the first leaves 13 places, the second 15. */
    static final int[] SIX_OPENED = {3, 2, 1, -1, -1, -1, 1, -1, -1, -1, 1, -1, -1, -1, 2, -1, -1, -1, -1};
    static final int[] SEVEN_OPENED = {3, 2, 1, -1, -1, -1, 1, -1, -1, -1, 1, -1, -1, -1, 2, 1, -1, -1, -1, -1, -1, -1};

    static String about(MatchCompile x) {
        StringJoiner all = new StringJoiner(" ");
        for (int what = 0; what <= 6; what++) {
            all.add(String.valueOf(x.about(what)));
        }
        return all.toString();
    }

    /** The call throws, and nothing that about() tells has changed. */
    static void refused(Check c, MatchCompile x, String what, String exception, Check.Call call) {
        String before = about(x);
        c.due(what, exception, call);
        c.due("about(0 .. 6) after " + what, before, () -> about(x));
    }

    static String match(MatchCompile x, int type0, int type1, int type2) {
        x.match(type0, type1, type2);
        return "done";
    }

    static void types(MatchCompile x, int count) {
        for (int i = 0; i < count; i++) {
            x.type();
        }
    }

    static void signs(MatchCompile x, int... signs) {
        for (int sign : signs) {
            x.sign(sign);
        }
    }

    /** For each count a column's pattern of as many ANYs, made by EITHERs: the line becomes their product. */
    static int[] anysOf(int... counts) {
        List<Integer> signs = new ArrayList<>();
        for (int count : counts) {
            signs.addAll(Collections.nCopies(count - 1, EITHER));
            signs.addAll(Collections.nCopies(count, ANY));
        }
        return signs.stream().mapToInt(sign -> sign).toArray();
    }

    static int row(MatchCompile x, int... signs) {
        signs(x, signs);
        return x.row();
    }

    static void give(MatchCompile x, int... makers) {
        x.empty();
        for (int maker : makers) {
            x.give(maker);
        }
    }

    /** Of a node: what 0 .. 4, the branches, and what 100 and 101. */
    static String node(MatchCompile x, int i) {
        StringJoiner all = new StringJoiner(" ");
        for (int what = 0; what <= 4; what++) {
            all.add(String.valueOf(x.node(i, what)));
        }
        for (int branch = 0; branch < x.node(i, 4); branch++) {
            all.add(String.valueOf(x.node(i, 5 + branch)));
        }
        return all + " | " + x.node(i, 100) + " " + x.node(i, 101);
    }

    static String missingCase(MatchCompile x, int k) {
        StringJoiner all = new StringJoiner(" ");
        for (int i = 0; i < 500 && x.missingSign(k, i) != -3; i++) {
            all.add(String.valueOf(x.missingSign(k, i)));
        }
        return all.toString();
    }

    /** Type 0 with the makers 0, zero, and 1, next (of one field). */
    static MatchCompile nat() {
        MatchCompile x = new MatchCompile();
        x.type();
        x.maker(0, NONE, NONE, NONE);
        x.maker(0, 0, NONE, NONE);
        return x;
    }

    /** nat(), and type 1, empty, with the maker 2; type 0 has the dead makers 3 and 4 too. */
    static MatchCompile withDead() {
        MatchCompile x = nat();
        x.type();
        x.maker(1, 0, 1, NONE);
        x.maker(0, 1, NONE, NONE);
        x.maker(0, 0, 0, 1);
        return x;
    }

    /**
     * Types 0 to 3 are threes of the one before, type 4 is empty, type 3 has a dead maker 4 too. Type 5
     * has the maker 5, a two; type 6 the makers 6, plain, and 7, a two; type 7 the makers 8, plain, and
     * 9, a three. Row 0 opens 12 places in column 0 (25 are left), and is lost at a dead maker in
     * column 1; row 1 opens column 1, and then the third one, if there is one.
     */
    static MatchCompile manyPlaces(int thirdType, int[] column1, int... third) {
        MatchCompile x = new MatchCompile();
        for (int i = 0; i < 8; i++) {
            x.type();
        }
        x.maker(0, NONE, NONE, NONE);
        x.maker(1, 0, 0, 0);
        x.maker(2, 1, 1, 1);
        x.maker(3, 2, 2, 2);
        x.maker(3, 4, NONE, NONE);
        x.maker(5, 0, 0, NONE);
        x.maker(6, NONE, NONE, NONE);
        x.maker(6, 0, 0, NONE);
        x.maker(7, NONE, NONE, NONE);
        x.maker(7, 0, 0, 0);
        x.match(3, 3, thirdType);
        x.sign(3);
        for (int i = 0; i < 8; i++) {
            signs(x, i % 3 == 0 ? new int[] {2, 1, ANY, ANY, ANY} : new int[] {1, ANY, ANY, ANY});
        }
        signs(x, ANY, 4, ANY);
        anys(x, thirdType == NONE ? 0 : 1);
        x.row();
        x.sign(ANY);
        signs(x, column1);
        signs(x, third);
        x.row();
        return x;
    }

    /** Three types of 8 makers: 1 + 8 + 64 + 28 * 8 nodes, and one TEST of type 3 with as many branches as makers. */
    static MatchCompile manyNodes(int last) {
        MatchCompile x = new MatchCompile();
        for (int i = 0; i < 4; i++) {
            x.type();
        }
        for (int i = 0; i < 24; i++) {
            x.maker(i / 8, i == 16 ? 3 : NONE, NONE, NONE);
        }
        for (int i = 0; i < last; i++) {
            x.maker(3, NONE, NONE, NONE);
        }
        x.match(0, 1, 2);
        row(x, 0, 8, 16, 24);
        row(x, 0, EITHER, 9, EITHER, 10, EITHER, 11, EITHER, 12, EITHER, 13, EITHER, 14, 15, 17);
        for (int i = 1; i <= 2; i++) {
            row(x, i, EITHER, 8, EITHER, 9, EITHER, 10, EITHER, 11, EITHER, 12, EITHER, 13, EITHER, 14, 15, 17);
        }
        row(x, 3, EITHER, 8, EITHER, 9, EITHER, 10, 11, 17);
        for (int i = 4; i < 8; i++) {
            row(x, i, 8, ANY);
        }
        return x;
    }

    /**
     * Type 0 is plain, the types 1 to 4 are threes of the one before (makers 0 to 4), type 5 is empty,
     * and the types 1 and 2 have the dead makers 5 and 6. Each row is lost at a dead maker, so that
     * the tree is one way down of 294 TESTs.
     */
    static MatchCompile deepTree() {
        return deepTree(false);
    }

    /** Wrapped: column 0 is of type 6, with the maker 7 over type 4, which all rows have, and the plain maker 8. */
    static MatchCompile deepTree(boolean wrapped) {
        MatchCompile x = new MatchCompile();
        types(x, 7);
        x.maker(0, NONE, NONE, NONE);
        for (int i = 1; i <= 4; i++) {
            x.maker(i, i - 1, i - 1, i - 1);
        }
        x.maker(1, 5, NONE, NONE);
        x.maker(2, 5, NONE, NONE);
        x.maker(6, 4, NONE, NONE);
        x.maker(6, NONE, NONE, NONE);
        x.match(wrapped ? 6 : 4, 4, 4);
        int[] wrap = wrapped ? new int[] {7} : new int[0];
        int[] whole2 = {2, 1, 0, 0, 0, 1, 0, 0, 0, 1, 0, 0, 0};
        for (int part = 0; part < 9; part++) {
            signs(x, wrap);
            anys(x, part / 3);
            x.sign(4);
            anys(x, part % 3);
            x.sign(3);
            signs(x, whole2);
            signs(x, whole2);
            signs(x, 6, ANY);
            anys(x, 2 - part % 3 + 2 - part / 3);
            x.row();
        }
        for (int column = 0; column < 3; column++) {
            signs(x, wrap);
            anys(x, column);
            signs(x, 4, 3, ANY, ANY);
            signs(x, whole2);
            signs(x, 3, ANY, ANY, 2, 5, ANY, ANY, ANY);
            anys(x, 1 + 2 - column);
            x.row();
        }
        return x;
    }

    static void anys(MatchCompile x, int count) {
        for (int i = 0; i < count; i++) {
            x.sign(ANY);
        }
    }
}
