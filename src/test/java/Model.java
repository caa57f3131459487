import java.util.ArrayList;
import java.util.Arrays;
import java.util.List;
import java.util.NoSuchElementException;

/** The document once more, by lists, trees of objects and recursion: slow, and with nothing of the class. */
final class Model {
    static final class TooGreat extends Exception {
        private static final long serialVersionUID = 1L;
    }

    record Maker(int type, List<Integer> fields) {
    }

    /** maker -1: ANY, -2: EITHER. */
    record Pattern(int maker, List<Pattern> parts) {
    }

    record Line(int row, List<Pattern> patterns) {
    }

    static final class Node {
        int kind;
        int subject;
        int places;
        int tested;
        Node parent;
        int maker = -1;
        int number;
        final List<Node> branches = new ArrayList<>();
    }

    static final Pattern ANY = new Pattern(-1, List.of());

    int types;
    final List<Maker> makers = new ArrayList<>();
    List<Integer> columns;
    List<List<Pattern>> rows = new ArrayList<>();
    List<Integer> signs = new ArrayList<>();
    List<Integer> values = new ArrayList<>();
    List<Node> nodes;
    int mostLines;
    int mostPlaces;
    int mostDepth;

    int type() {
        if (types == 8) {
            throw new IllegalStateException();
        }
        return types++;
    }

    private List<Integer> typesOf(int a, int b, int c) {
        List<Integer> found = new ArrayList<>();
        for (int t : new int[] {a, b, c}) {
            if (t == -1) {
                break;
            }
            if (t < 0 || t >= types) {
                throw new IndexOutOfBoundsException();
            }
            found.add(t);
        }
        return found;
    }

    private void forget() {
        columns = null;
        rows = new ArrayList<>();
        signs = new ArrayList<>();
        values = new ArrayList<>();
        nodes = null;
    }

    int maker(int type, int a, int b, int c) {
        List<Integer> fields = typesOf(a, b, c);
        if (type < 0 || type >= types) {
            throw new IndexOutOfBoundsException();
        }
        if (makers.size() == 40 || makers.stream().filter(m -> m.type() == type).count() == 8) {
            throw new IllegalStateException();
        }
        forget();
        makers.add(new Maker(type, fields));
        return makers.size() - 1;
    }

    /** A type that has a value has one no deeper than there are types. */
    private boolean[] emptyTypes() {
        boolean[][] within = new boolean[10][8];
        for (int depth = 1; depth < 10; depth++) {
            for (Maker m : makers) {
                boolean all = true;
                for (int f : m.fields()) {
                    all &= within[depth - 1][f];
                }
                within[depth][m.type()] |= all;
            }
        }
        boolean[] empty = new boolean[8];
        for (int t = 0; t < 8; t++) {
            empty[t] = !within[9][t];
        }
        return empty;
    }

    boolean isEmpty(int type) {
        if (type < 0 || type >= types) {
            throw new IndexOutOfBoundsException();
        }
        return emptyTypes()[type];
    }

    boolean isDead(int maker) {
        boolean[] empty = emptyTypes();
        return makers.get(maker).fields().stream().anyMatch(f -> empty[f]);
    }

    void match(int a, int b, int c) {
        List<Integer> found = typesOf(a, b, c);
        if (found.isEmpty()) {
            throw new IndexOutOfBoundsException();
        }
        forget();
        columns = found;
    }

    /** The types that a row of signs leaves open, the next one first. */
    List<Integer> open(List<Integer> row) {
        List<Integer> asked = new ArrayList<>(columns);
        for (int sign : row) {
            int type = asked.remove(0);
            if (sign == -2) {
                asked.add(0, type);
                asked.add(0, type);
            } else if (sign >= 0) {
                asked.addAll(0, makers.get(sign).fields());
            }
        }
        return asked;
    }

    private boolean stands(int maker, List<Integer> row) {
        List<Integer> asked = open(row);
        return !asked.isEmpty() && maker >= 0 && maker < makers.size() && makers.get(maker).type() == asked.get(0);
    }

    private void needMatch() {
        if (columns == null) {
            throw new IllegalStateException();
        }
    }

    int sign(int sign) {
        needMatch();
        if (signs.size() == 40) {
            throw new IllegalStateException();
        }
        boolean free = (sign == -1 || sign == -2) && !open(signs).isEmpty();
        if (!free && !stands(sign, signs)) {
            throw new IllegalArgumentException();
        }
        signs.add(sign);
        return signs.size();
    }

    private Pattern read(List<Integer> row, int[] at) {
        int sign = row.get(at[0]++);
        int parts = sign == -1 ? 0 : sign == -2 ? 2 : makers.get(sign).fields().size();
        List<Pattern> read = new ArrayList<>();
        for (int i = 0; i < parts; i++) {
            read.add(read(row, at));
        }
        return new Pattern(sign, read);
    }

    private List<Pattern> readAll(List<Integer> row) {
        int[] at = {0};
        List<Pattern> read = new ArrayList<>();
        for (int i = 0; i < columns.size(); i++) {
            read.add(read(row, at));
        }
        return read;
    }

    int row() {
        needMatch();
        if (rows.size() == 12) {
            throw new IllegalStateException();
        }
        List<Integer> hand = signs;
        boolean whole = open(hand).isEmpty();
        signs = new ArrayList<>();
        if (!whole) {
            throw new IllegalArgumentException();
        }
        rows.add(readAll(hand));
        nodes = null;
        return rows.size() - 1;
    }

    int compile() {
        needMatch();
        List<Line> lines = new ArrayList<>();
        for (int r = 0; r < rows.size(); r++) {
            lines.add(new Line(r, rows.get(r)));
        }
        nodes = new ArrayList<>();
        mostLines = 0;
        mostPlaces = 0;
        mostDepth = 0;
        try {
            grow(columns, lines, null, -1, 1);
        } catch (TooGreat e) {
            nodes = null;
            throw new UnsupportedOperationException();
        }
        return nodes.size();
    }

    private static List<Line> withoutEithers(List<Line> lines) throws TooGreat {
        List<Line> now = new ArrayList<>(lines);
        boolean again = true;
        while (again) {
            again = false;
            search:
            for (int l = 0; l < now.size(); l++) {
                Line line = now.get(l);
                for (int p = 0; p < line.patterns().size(); p++) {
                    Pattern pattern = line.patterns().get(p);
                    if (pattern.maker() == -2) {
                        List<Pattern> first = new ArrayList<>(line.patterns());
                        List<Pattern> second = new ArrayList<>(line.patterns());
                        first.set(p, pattern.parts().get(0));
                        second.set(p, pattern.parts().get(1));
                        now.set(l, new Line(line.row(), first));
                        now.add(l + 1, new Line(line.row(), second));
                        again = true;
                        break search;
                    }
                }
            }
            if (now.size() > 60) {
                throw new TooGreat();
            }
        }
        return now;
    }

    private static <T> List<T> replaced(List<T> all, int at, List<T> by) {
        List<T> made = new ArrayList<>(all.subList(0, at));
        made.addAll(by);
        made.addAll(all.subList(at + 1, all.size()));
        return made;
    }

    private Node grow(List<Integer> places, List<Line> given, Node parent, int maker, int depth) throws TooGreat {
        List<Line> lines = withoutEithers(given);
        mostLines = Math.max(mostLines, lines.size());
        mostPlaces = Math.max(mostPlaces, places.size());
        mostDepth = Math.max(mostDepth, depth);
        if (places.size() > 40 || nodes.size() == 300) {
            throw new TooGreat();
        }
        Node node = new Node();
        node.parent = parent;
        node.maker = maker;
        node.number = nodes.size();
        nodes.add(node);
        if (lines.isEmpty()) {
            node.kind = 0;
            return node;
        }
        int at = -1;
        List<Pattern> first = lines.get(0).patterns();
        for (int p = first.size() - 1; p >= 0; p--) {
            if (first.get(p).maker() >= 0) {
                at = p;
            }
        }
        if (at < 0) {
            node.kind = 1;
            node.subject = lines.get(0).row();
            return node;
        }
        node.kind = 2;
        node.subject = places.get(at);
        node.places = places.size();
        node.tested = at;
        for (int m = 0; m < makers.size(); m++) {
            Maker made = makers.get(m);
            if (made.type() != node.subject || isDead(m)) {
                continue;
            }
            List<Line> stay = new ArrayList<>();
            for (Line line : lines) {
                Pattern pattern = line.patterns().get(at);
                if (pattern.maker() == m) {
                    stay.add(new Line(line.row(), replaced(line.patterns(), at, pattern.parts())));
                } else if (pattern.maker() == -1) {
                    List<Pattern> anys = new ArrayList<>();
                    made.fields().forEach(f -> anys.add(ANY));
                    stay.add(new Line(line.row(), replaced(line.patterns(), at, anys)));
                }
            }
            node.branches.add(grow(replaced(places, at, made.fields()), stay, node, m, depth + 1));
        }
        return node;
    }

    int node(int i, int what) {
        if (nodes == null || i < 0 || i >= nodes.size()) {
            throw new NoSuchElementException();
        }
        Node node = nodes.get(i);
        if (what == 0) {
            return node.kind;
        }
        if (what == 100) {
            return node.parent == null ? -1 : node.parent.number;
        }
        if (what == 101) {
            return node.maker;
        }
        if (what == 1) {
            return node.kind == 0 ? -1 : node.subject;
        }
        if (node.kind != 2 || what < 0) {
            return -1;
        }
        if (what <= 4) {
            return what == 2 ? node.places : what == 3 ? node.tested : node.branches.size();
        }
        return what - 5 < node.branches.size() ? node.branches.get(what - 5).number : -1;
    }

    private List<Node> fails() {
        return nodes == null ? List.of() : nodes.stream().filter(n -> n.kind == 0).toList();
    }

    int missing() {
        return nodes == null ? -1 : fails().size();
    }

    List<Integer> missingCase(int k) {
        List<Node> way = new ArrayList<>();
        for (Node n = fails().get(k); n.parent != null; n = n.parent) {
            way.add(0, n);
        }
        // a place is a list with -1 until it is found to be a maker: then the maker and its fields' places
        List<List<Object>> roots = new ArrayList<>();
        columns.forEach(c -> roots.add(new ArrayList<>(List.of(-1))));
        List<List<Object>> places = new ArrayList<>(roots);
        for (Node n : way) {
            List<Object> place = places.get(n.parent.tested);
            place.set(0, n.maker);
            List<List<Object>> fields = new ArrayList<>();
            makers.get(n.maker).fields().forEach(f -> fields.add(new ArrayList<>(List.of(-1))));
            place.addAll(fields);
            places = replaced(places, n.parent.tested, fields);
        }
        List<Integer> told = new ArrayList<>();
        roots.forEach(r -> flatten(r, told));
        return told;
    }

    private static void flatten(Object part, List<Integer> told) {
        if (part instanceof Integer sign) {
            told.add(sign);
        } else if (part instanceof List<?> list) {
            list.forEach(p -> flatten(p, told));
        }
    }

    int missingSign(int k, int i) {
        if (k < 0 || k >= fails().size()) {
            throw new NoSuchElementException();
        }
        List<Integer> told = missingCase(k);
        return i >= 0 && i < told.size() ? told.get(i) : -3;
    }

    boolean isIdle(int row) {
        if (nodes == null || row < 0 || row >= rows.size()) {
            throw new NoSuchElementException();
        }
        return nodes.stream().noneMatch(n -> n.kind == 1 && n.subject == row);
    }

    int give(int maker) {
        needMatch();
        if (values.size() == 60) {
            throw new IllegalStateException();
        }
        if (!stands(maker, values)) {
            throw new IllegalArgumentException();
        }
        values.add(maker);
        return values.size();
    }

    private List<Pattern> wholeValues() {
        needMatch();
        if (!open(values).isEmpty()) {
            throw new IllegalArgumentException();
        }
        return readAll(values);
    }

    private static boolean takes(Pattern pattern, Pattern value) {
        if (pattern.maker() == -1) {
            return true;
        }
        if (pattern.maker() == -2) {
            return pattern.parts().stream().anyMatch(p -> takes(p, value));
        }
        return pattern.maker() == value.maker() && takeAll(pattern.parts(), value.parts());
    }

    private static boolean takeAll(List<Pattern> patterns, List<Pattern> values) {
        for (int i = 0; i < patterns.size(); i++) {
            if (!takes(patterns.get(i), values.get(i))) {
                return false;
            }
        }
        return true;
    }

    int answer() {
        List<Pattern> given = wholeValues();
        for (int r = 0; r < rows.size(); r++) {
            if (takeAll(rows.get(r), given)) {
                return r;
            }
        }
        return -1;
    }

    private Node reached(List<Pattern> given) {
        List<Pattern> places = given;
        Node node = nodes.get(0);
        while (node.kind == 2) {
            Pattern value = places.get(node.tested);
            places = replaced(places, node.tested, value.parts());
            node = node.branches.stream().filter(b -> b.maker == value.maker()).findFirst().orElseThrow();
        }
        return node;
    }

    int tests() {
        List<Pattern> given = wholeValues();
        if (nodes == null) {
            throw new NoSuchElementException();
        }
        int made = 0;
        for (Node n = reached(given); n.parent != null; n = n.parent) {
            made++;
        }
        return made;
    }

    /** The row of the LEAF that the tree comes to, -1 for a FAIL. */
    int leafRow() {
        Node node = reached(wholeValues());
        return node.kind == 1 ? node.subject : -1;
    }

    void empty() {
        values = new ArrayList<>();
    }

    int about(int what) {
        List<Integer> all = Arrays.asList(types, makers.size(), columns == null ? 0 : columns.size(), rows.size(),
            signs.size(), values.size(), nodes == null ? -1 : nodes.size());
        return what >= 0 && what < all.size() ? all.get(what) : -1;
    }
}
