import java.util.ArrayList;
import java.util.List;

/** Two objects alike: one is asked something, and then both are looked at all over. */
final class Twins {
    private static final int[] COUNTED = {0, 1, 2, 3, 4, 5, 6, 7, 8, 20, 21, 22, 23, 24, 25, 26, 27};

    /** A call of the face with its numbers. */
    interface Call {
        int on(FilledForOne x);
    }

    private final List<String> calls = new ArrayList<>();
    private final List<Integer> answers = new ArrayList<>();

    private Twins() {
    }

    /** The call is refused by this answer: its refusal is counted once more, and nothing else is other. */
    static void refused(State state, String call, Call asked, int answer) {
        String name = state + ": " + call;
        FilledForOne x = state.make();
        FilledForOne twin = state.make();
        Check.due(name, asked.on(x), answer);
        int code = answer > 0 ? answer - 1000000000 : -answer;
        alike(name, x, twin, code);
    }

    static void refused(String call, Call asked, int answer) {
        for (State state : State.values()) {
            refused(state, call, asked, answer);
        }
    }

    /** The call is not refused, and whatever it answers is in mind: nothing is other. */
    static void onlyAsked(State state, String call, Call asked) {
        FilledForOne x = state.make();
        FilledForOne twin = state.make();
        asked.on(x);
        alike(state + ": " + call, x, twin, 0);
    }

    static void onlyAsked(String call, Call asked) {
        for (State state : State.values()) {
            onlyAsked(state, call, asked);
        }
    }

    /** Both answer everything alike, but x has one refusal more of this code (0: of none). */
    static void alike(String name, FilledForOne x, FilledForOne twin, int code) {
        for (int i = 1; i <= 6; i++) {
            int more = i == code ? 1 : 0;
            Check.due(name + ": count(" + (10 + i) + ")", x.count(10 + i), twin.count(10 + i) + more);
        }
        Twins one = looked(x);
        Twins other = looked(twin);
        Check.due(name + ": answers", one.answers.size(), other.answers.size());
        for (int i = 0; i < Math.min(one.answers.size(), other.answers.size()); i++) {
            Check.due(name + ": then " + one.calls.get(i), one.answers.get(i), other.answers.get(i));
        }
    }

    private static Twins looked(FilledForOne x) {
        Twins t = new Twins();
        t.asThingsAre(x);
        t.inMind(x);
        // what cannot be read without using it up comes last: the ROW, the letters, the IMAGE
        t.add("judge", x.judge());
        t.add("office", x.office());
        t.counts("behind office: ", x);
        t.kinds("behind office: ", x);
        t.add("restore", x.restore());
        t.counts("restored: ", x);
        t.kinds("restored: ", x);
        t.kettles("restored: ", x);
        t.add("restored: rest(4)", x.rest(4));
        return t;
    }

    private void add(String call, int answer) {
        calls.add(call);
        answers.add(answer);
    }

    private void counts(String when, FilledForOne x) {
        for (int what : COUNTED) {
            add(when + "count(" + what + ")", x.count(what));
        }
    }

    private void kinds(String when, FilledForOne x) {
        for (int i = 0; i < x.count(0); i++) {
            add(when + "comer(" + i + ", 0)", x.comer(i, 0));
        }
    }

    private void kettles(String when, FilledForOne x) {
        for (int k = 0; k < x.count(27); k++) {
            for (int what = 0; what <= 3; what++) {
                add(when + "kettle(" + k + ", " + what + ")", x.kettle(k, what));
            }
        }
    }

    private void asThingsAre(FilledForOne x) {
        counts("", x);
        kettles("", x);
        for (int i = 0; i < x.count(0); i++) {
            for (int what = 0; what <= 7; what++) {
                add("comer(" + i + ", " + what + ")", x.comer(i, what));
            }
        }
        for (int i = 0; i <= x.count(2); i++) {
            add("line(" + i + ")", x.line(i));
        }
    }

    private void inMind(FilledForOne x) {
        for (int what = 0; what <= 4; what++) {
            add("rest(" + what + ")", x.rest(what));
        }
        for (int i = 0; i < x.count(0); i++) {
            add("when(" + i + ")", x.when(i));
            add("best(" + i + ", 0)", x.best(i, 0));
        }
        add("rounds(1)", x.rounds(1));
        add("marks(1)", x.marks(1));
        add("second()", x.second());
        add("least(0)", x.least(0));
        add("ferry(2, 5)", x.ferry(2, 5));
        add("seeds(2, 3, 0)", x.seeds(2, 3, 0));
    }
}
