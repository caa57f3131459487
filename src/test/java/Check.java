import java.util.Objects;

/** Counts answers that are not as due; a call's answer is told as a text, an exception by its class. */
final class Check {
    interface Call {
        Object run();
    }

    interface Act {
        void run();
    }

    private final String name;
    private String within = "";
    private int wrong;
    private int made;

    Check(String name) {
        this.name = name;
    }

    /** What is told before each answer that is not as due, from now on. */
    void within(String place) {
        within = place;
    }

    static String tell(Call call) {
        try {
            return String.valueOf(call.run());
        } catch (RuntimeException e) {
            return "throws." + e.getClass().getSimpleName();
        }
    }

    void due(String what, Object want, Call call) {
        made++;
        String got = tell(call);
        if (!Objects.equals(got, String.valueOf(want))) {
            wrong++;
            if (wrong <= 20) {
                System.out.println(within + what + " answered " + got + ", due is " + want);
            }
        }
    }

    void dueAct(String what, Object want, Act act) {
        due(what, want, () -> {
            act.run();
            return "done";
        });
    }

    int wrong() {
        return wrong;
    }

    int made() {
        return made;
    }

    void end() {
        System.out.println(name + ": " + made + " answers, " + wrong + " not as due");
        if (wrong != 0) {
            System.exit(1);
        }
    }
}
