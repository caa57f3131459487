import java.util.ArrayList;
import java.util.List;

/** Runs of calls, drawn by a fixed row of numbers, on the class and on the model: all answers are the same. */
public final class ModelTest {
    private static final int RUNS = 2000;
    private static final int CALLS = 512;
    private static final int[] FAR_OFF = {Integer.MIN_VALUE, Integer.MIN_VALUE + 1, -1_000_000, -101, -4, -3, 39, 40, 60, 99, 100,
        101, 102, 300, 1_000_000, Integer.MAX_VALUE - 1, Integer.MAX_VALUE};

    private long seed;
    private final Check check;
    private MatchCompile real;
    private Model model;
    private String told;
    private final int[] seen = new int[8];

    private ModelTest(Check check) {
        this.check = check;
    }

    private int draw(int bound) {
        seed = seed * 6364136223846793005L + 1442695040888963407L;
        return (int) ((seed >>> 33) % bound);
    }

    private void both(String call, Check.Call onReal, Check.Call onModel) {
        told = told.length() > 3000 ? told.substring(1000) : told;
        String want = Check.tell(onModel);
        told += call + "=" + want + " ";
        check.due(told, want, onReal);
    }

    private void type() {
        both("type()", () -> real.type(), () -> model.type());
    }

    private void maker(int t, int a, int b, int c) {
        both("maker(" + t + "," + a + "," + b + "," + c + ")", () -> real.maker(t, a, b, c), () -> model.maker(t, a, b, c));
    }

    private void match(int a, int b, int c) {
        both("match(" + a + "," + b + "," + c + ")", () -> {
            real.match(a, b, c);
            return "done";
        }, () -> {
            model.match(a, b, c);
            return "done";
        });
    }

    private void sign(int s) {
        both("sign(" + s + ")", () -> real.sign(s), () -> model.sign(s));
    }

    private void row() {
        both("row()", () -> real.row(), () -> model.row());
    }

    private void give(int m) {
        both("give(" + m + ")", () -> real.give(m), () -> model.give(m));
    }

    private void ask() {
        both("answer()", () -> real.answer(), () -> model.answer());
        both("tests()", () -> real.tests(), () -> model.tests());
        if (model.columns != null && model.nodes != null && model.open(model.values).isEmpty()) {
            check.due(told + "the tree's row", model.leafRow(), () -> real.answer());
            seen[0]++;
        }
    }

    private void aboutAll() {
        for (int what = -2; what <= 8; what++) {
            int w = what;
            both("about(" + w + ")", () -> real.about(w), () -> model.about(w));
        }
        both("missing()", () -> real.missing(), () -> model.missing());
    }

    private void compile() {
        both("compile()", () -> real.compile(), () -> model.compile());
        if (model.columns != null) {
            if (model.nodes == null) {
                seen[1]++;
            } else {
                seen[2]++;
                seen[3] = Math.max(seen[3], model.nodes.size());
                seen[4] = Math.max(seen[4], model.mostLines);
                seen[5] = Math.max(seen[5], model.mostPlaces);
                seen[6] = Math.max(seen[6], model.mostDepth);
            }
        }
        dumpTree();
    }

    private void dumpTree() {
        int nodes = model.nodes == null ? 0 : model.nodes.size();
        for (int i = -1; i <= nodes; i++) {
            for (int what : new int[] {-1, 0, 1, 2, 3, 4, 5, 6, 7, 8, 9, 10, 11, 12, 13, 99, 100, 101, 102}) {
                int n = i;
                check.due(told + "node(" + n + "," + what + ")", Check.tell(() -> model.node(n, what)), () -> real.node(n, what));
            }
        }
        int missing = Math.max(model.missing(), 0);
        for (int k = -1; k <= missing; k++) {
            int n = k;
            int length = k >= 0 && k < missing ? model.missingCase(k).size() : 0;
            for (int i = -1; i <= length + 1; i++) {
                int at = i;
                check.due(told + "missingSign(" + n + "," + at + ")", Check.tell(() -> model.missingSign(n, at)),
                    () -> real.missingSign(n, at));
            }
        }
        for (int r = -1; r <= 12; r++) {
            int row = r;
            check.due(told + "isIdle(" + row + ")", Check.tell(() -> model.isIdle(row)), () -> real.isIdle(row));
        }
    }

    private int someType() {
        return draw(25) == 0 ? draw(12) - 2 : draw(Math.max(model.types, 1));
    }

    private int someOrNone() {
        return draw(3) == 0 ? -1 : someType();
    }

    private void addTypes() {
        int types = draw(30) == 0 ? 9 : 1 + draw(5);
        for (int i = 0; i < types; i++) {
            type();
        }
        int makers = draw(20) == 0 ? 44 : 1 + draw(3 * types);
        for (int i = 0; i < makers; i++) {
            boolean plain = draw(3) == 0;
            maker(someType(), plain ? -1 : someOrNone(), someOrNone(), someOrNone());
        }
        for (int t = -1; t <= types; t++) {
            int n = t;
            both("isEmpty(" + n + ")", () -> real.isEmpty(n), () -> model.isEmpty(n));
        }
    }

    /** A maker that may stand there, more often one with few fields if there should be an end. */
    private int fitting(List<Integer> row, boolean end) {
        List<Integer> asked = model.open(row);
        if (asked.isEmpty()) {
            return draw(8) - 3;
        }
        List<Integer> fit = new ArrayList<>();
        for (int m = 0; m < model.makers.size(); m++) {
            Model.Maker maker = model.makers.get(m);
            if (maker.type() == asked.get(0) && (!end || !model.isDead(m))) {
                fit.add(m);
                for (int i = maker.fields().size(); end && i < 3; i++) {
                    fit.add(m);
                }
            }
        }
        return fit.isEmpty() ? -1 : fit.get(draw(fit.size()));
    }

    private void addRow(int eithers, int anys) {
        if (model.columns == null) {
            return;
        }
        for (int i = 0; i < 42 && !model.open(model.signs).isEmpty(); i++) {
            int open = model.open(model.signs).size();
            if (draw(400) == 0) {
                sign(draw(50) - 5);
            } else if (draw(400) == 0) {
                row();
            } else if (draw(100) < eithers && model.signs.size() + open < 36) {
                sign(-2);
            } else if (draw(100) < anys || model.signs.size() + open > 36) {
                sign(-1);
            } else {
                sign(fitting(model.signs, draw(2) == 0));
            }
        }
        if (draw(20) == 0) {
            sign(draw(10) - 3);
        }
        row();
    }

    private void giveValues() {
        if (model.columns == null) {
            return;
        }
        if (draw(8) != 0) {
            real.empty();
            model.empty();
        }
        for (int i = 0; i < 64 && !model.open(model.values).isEmpty(); i++) {
            if (draw(60) == 0) {
                ask();
            }
            give(draw(100) == 0 ? draw(44) - 2 : fitting(model.values, i > 8 || draw(2) == 0));
        }
        if (draw(10) == 0) {
            give(draw(44) - 2);
        }
        ask();
    }

    private void run(int number) {
        seed = number * 7919L + 17;
        draw(2);
        real = new MatchCompile();
        model = new Model();
        told = "run " + number + ": ";
        aboutAll();
        if (draw(5) == 0) {
            compile();
            sign(-1);
            row();
            give(0);
            ask();
        }
        addTypes();
        int matches = 1 + draw(3);
        for (int m = 0; m < matches; m++) {
            match(draw(10) == 0 ? someOrNone() : draw(Math.max(model.types, 1)), someOrNone(), someOrNone());
            int eithers = draw(3) * 12;
            int anys = 15 + draw(50);
            int rows = draw(15);
            for (int r = 0; r < rows; r++) {
                addRow(eithers, anys);
                if (draw(12) == 0) {
                    compile();
                }
            }
            aboutAll();
            compile();
            for (int v = 0; v < 6; v++) {
                giveValues();
            }
            if (draw(6) == 0) {
                sign(-1);
                row();
                dumpTree();
            }
            if (draw(6) == 0) {
                maker(someType(), someOrNone(), -1, -1);
                aboutAll();
                dumpTree();
                ask();
            }
        }
        aboutAll();
    }

    private int any(int bound) {
        return draw(12) == 0 ? FAR_OFF[draw(FAR_OFF.length)] : draw(bound + 2) - 1;
    }

    private void empty() {
        both("empty()", () -> {
            real.empty();
            return "done";
        }, () -> {
            model.empty();
            return "done";
        });
    }

    private void askAnything() {
        int a = any(14);
        int b = any(14);
        both("node(" + a + "," + b + ")", () -> real.node(a, b), () -> model.node(a, b));
        both("missingSign(" + a + "," + b + ")", () -> real.missingSign(a, b), () -> model.missingSign(a, b));
        both("isIdle(" + a + ")", () -> real.isIdle(a), () -> model.isIdle(a));
        both("isEmpty(" + a + ")", () -> real.isEmpty(a), () -> model.isEmpty(a));
        both("about(" + a + ")", () -> real.about(a), () -> model.about(a));
        both("missing()", () -> real.missing(), () -> model.missing());
    }

    private int anySign(List<Integer> hand) {
        boolean fits = model.columns != null && draw(8) != 0;
        return fits ? fitting(hand, draw(3) != 0) : any(12);
    }

    private void callAnything() {
        int kind = draw(100);
        if (kind < 2) {
            type();
        } else if (kind < 4) {
            maker(any(4), any(4), any(4), any(4));
        } else if (kind < 7) {
            match(any(4), any(4), any(4));
        } else if (kind < 45) {
            sign(draw(3) == 0 ? -1 - draw(2) : anySign(model.signs));
        } else if (kind < 58) {
            row();
        } else if (kind < 65) {
            both("compile()", () -> real.compile(), () -> model.compile());
        } else if (kind < 85) {
            give(anySign(model.values));
        } else if (kind < 90) {
            ask();
        } else if (kind < 92) {
            empty();
        } else {
            askAnything();
        }
    }

    /** Calls of all kinds in any order, with arguments far off among them. */
    private void runOfAnything(int number) {
        seed = number * 104729L + 71;
        draw(2);
        real = new MatchCompile();
        model = new Model();
        told = "run of anything " + number + ": ";
        if (draw(2) == 0) {
            addTypes();
        }
        for (int call = 0; call < CALLS; call++) {
            callAnything();
        }
        aboutAll();
        dumpTree();
    }

    public static void main(String[] args) {
        Check check = new Check("ModelTest");
        ModelTest test = new ModelTest(check);
        int runs = args.length > 0 ? Integer.parseInt(args[0]) : RUNS;
        for (int number = 0; number < runs && check.wrong() < 20; number++) {
            test.run(number);
            test.runOfAnything(number);
        }
        System.out.println("values asked " + test.seen[0] + ", trees too great " + test.seen[1] + ", trees " + test.seen[2]
            + ", most nodes " + test.seen[3] + ", lines " + test.seen[4] + ", places " + test.seen[5] + ", depth " + test.seen[6]);
        check.due("more trees than runs, and trees too great among them", true,
            () -> test.seen[1] * 100 > runs && test.seen[2] > runs);
        check.end();
    }
}
