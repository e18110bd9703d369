/**
 * What each call refuses, promise by promise, in every STATE that it can be refused in: the answer, its
 * place among several that fit, and that nothing changes but how many there were. And what no call
 * refuses: each at its bounds.
 */
public final class RefusalsTest {
    private static final int LOWEST = Integer.MIN_VALUE;
    private static final int HIGHEST = Integer.MAX_VALUE;
    private static final int[] LEAST = {2, 0, 1, 1, 0, 0, 0, 1};
    private static final int[] GREATEST = {11, 9, 20, 9, 9, 9, 11, 2};
    private static final State[] WITH_COMERS = {State.MORNING, State.MIDDAY, State.FULL, State.EVENING};
    private static final State[] OVER = {State.NEW, State.EVENING};

    private RefusalsTest() {
    }

    public static void main(String[] args) {
        statesAreAsTold();
        feed();
        comer();
        kind();
        kettle();
        set();
        setsState();
        go();
        line();
        whats();
        when();
        best();
        rounds();
        urn();
        least();
        ferry();
        timesAndBetter();
        row();
        fits();
        seeds();
        restore();
        askedInMind();
        askedOfWhatIs();
        counted();
        Check.end();
    }

    private static void refused(State[] states, String call, Twins.Call asked, int answer) {
        for (State state : states) {
            Twins.refused(state, call, asked, answer);
        }
    }

    private static void statesAreAsTold() {
        int[][] counts = {
            {0, 0, 0, 0, 0, 1, 0, 0, 0},
            {3, 0, 0, 0, 0, 0, 0, 4, 1},
            {5, 4, 2, 1, 1, 0, 2, 5, 2},
            {8, 0, 0, 0, 0, 0, 0, 96, 12},
            {3, 10, 0, 2, 1, 1, 5, 0, 0}};
        for (State state : State.values()) {
            FilledForOne x = state.make();
            for (int what = 0; what <= 8; what++) {
                Check.due(state + ": count(" + what + ")", x.count(what), counts[state.ordinal()][what]);
            }
        }
        FilledForOne midday = State.MIDDAY.make();
        Check.due("KETTLE 0 is BUSY", midday.kettle(0, 3), 1);
        Check.due("KETTLE 1 is BUSY", midday.kettle(1, 3), 1);
        Check.due("the IMAGE", midday.restore(), 2);
        Check.due("cups left", State.EVENING.make().kettle(0, 0), 4);
    }

    /** "feed: -4; -6 (255; 96, too)." */
    private static void feed() {
        Twins.refused("feed(-1)", x -> x.feed(-1), -4);
        Twins.refused("feed(lowest)", x -> x.feed(LOWEST), -4);
        Twins.refused("feed(256)", x -> x.feed(256), -6);
        Twins.refused("feed(highest)", x -> x.feed(HIGHEST), -6);
        Twins.refused(State.FULL, "feed(0), a 97th", x -> x.feed(0), -6);
        Twins.refused(State.FULL, "feed(255), a 97th", x -> x.feed(255), -6);
    }

    /** "comer: -1; -2." */
    private static void comer() {
        int[] none = {-1, LOWEST, 8, 9, HIGHEST};
        for (int i : none) {
            Twins.refused("comer(" + i + ", 0)", x -> x.comer(i, 0), -1);
            Twins.refused("comer(" + i + ", 8)", x -> x.comer(i, 8), -1);
        }
        Twins.refused("comer behind the last", x -> x.comer(x.count(0), 0), -1);
        Twins.refused("comer behind the last, -1", x -> x.comer(x.count(0), -1), -1);
        int[] others = {-1, LOWEST, 8, HIGHEST};
        for (int what : others) {
            refused(WITH_COMERS, "comer(0, " + what + ")", x -> x.comer(0, what), -2);
            refused(WITH_COMERS, "comer(last, " + what + ")", x -> x.comer(x.count(0) - 1, what), -2);
        }
    }

    /** "kind: -1; -2; -4; -6 9." */
    private static void kind() {
        Twins.refused("kind(-1, 7, 10)", x -> x.kind(-1, 7, 10), -1);
        Twins.refused("kind(8, -1, -1)", x -> x.kind(8, -1, -1), -1);
        Twins.refused("kind behind the last", x -> x.kind(x.count(0), 0, 0), -1);
        int[] others = {-1, LOWEST, 7, HIGHEST};
        for (int kind : others) {
            refused(WITH_COMERS, "kind(0, " + kind + ", 0)", x -> x.kind(0, kind, 0), -2);
            refused(WITH_COMERS, "kind(0, " + kind + ", -1)", x -> x.kind(0, kind, -1), -2);
            refused(WITH_COMERS, "kind(0, " + kind + ", 10)", x -> x.kind(0, kind, 10), -2);
        }
        refused(WITH_COMERS, "kind(0, 0, -1)", x -> x.kind(0, 0, -1), -4);
        refused(WITH_COMERS, "kind(0, 6, lowest)", x -> x.kind(0, 6, LOWEST), -4);
        refused(WITH_COMERS, "kind(0, 0, 10)", x -> x.kind(0, 0, 10), -6);
        refused(WITH_COMERS, "kind(0, 6, highest)", x -> x.kind(0, 6, HIGHEST), -6);
        FilledForOne x = State.FULL.make();
        Check.due("kind(0, 0, 0)", x.kind(0, 0, 0), 31);
        Check.due("kind(0, 6, 9)", x.kind(0, 6, 9), 0);
        Check.due("kind(0, 1, 1)", x.kind(0, 1, 1), 69);
        Check.due("kind(7, 5, 8)", x.kind(7, 5, 8), 31);
    }

    /** "kettle: -1 (no such KETTLE now); -2." */
    private static void kettle() {
        int[] none = {-1, LOWEST, 2, HIGHEST};
        for (int k : none) {
            Twins.refused("kettle(" + k + ", 0)", x -> x.kettle(k, 0), -1);
            Twins.refused("kettle(" + k + ", 4)", x -> x.kettle(k, 4), -1);
        }
        Twins.refused("kettle behind the last", x -> x.kettle(x.count(27), 0), -1);
        int[] others = {-1, LOWEST, 4, HIGHEST};
        for (int what : others) {
            Twins.refused("kettle(0, " + what + ")", x -> x.kettle(0, what), -2);
            Twins.refused(State.MIDDAY, "kettle(1, " + what + ")", x -> x.kettle(1, what), -2);
        }
    }

    /** "set: -1; -4; -6" of each SETTING */
    private static void set() {
        int[] none = {-1, LOWEST, 8, HIGHEST};
        for (int s : none) {
            Twins.refused("set(" + s + ", 1)", x -> x.set(s, 1), -1);
            Twins.refused("set(" + s + ", -1)", x -> x.set(s, -1), -1);
            Twins.refused("set(" + s + ", 99)", x -> x.set(s, 99), -1);
        }
        for (int s = 0; s <= 7; s++) {
            int setting = s;
            Twins.refused("set(" + s + ", below)", x -> x.set(setting, LEAST[setting] - 1), -4);
            Twins.refused("set(" + s + ", lowest)", x -> x.set(setting, LOWEST), -4);
            Twins.refused("set(" + s + ", above)", x -> x.set(setting, GREATEST[setting] + 1), -6);
            Twins.refused("set(" + s + ", highest)", x -> x.set(setting, HIGHEST), -6);
        }
    }

    /** "-3: HOLDS less than a LEVEL; KETTLES other than they are, but at MINUTE 0." */
    private static void setsState() {
        Twins.refused(State.MIDDAY, "HOLDS 7 of 8 cups in KETTLE 1", x -> x.set(0, 7), -3);
        Twins.refused(State.MIDDAY, "HOLDS 2 of 8 cups in KETTLE 1", x -> x.set(0, 2), -3);
        Twins.refused(State.EVENING, "HOLDS 3 of 4 cups", x -> x.set(0, 3), -3);
        Twins.refused(State.MIDDAY, "KETTLES 1 of 2 at MINUTE 4", x -> x.set(7, 1), -3);
        Twins.refused(State.EVENING, "KETTLES 2 of 1 at MINUTE 10", x -> x.set(7, 2), -3);
        FilledForOne x = State.EVENING.make();
        Check.due("HOLDS 4 of 4 cups", x.set(0, 4), 8);
        Check.due("HOLDS 5 of 4 cups", x.set(0, 5), 4);
        Check.due("KETTLES as they are", x.set(7, 1), 1);
        x.anew();
        Check.due("HOLDS 2 of no cups", x.set(0, 2), 5);
        Check.due("KETTLES at MINUTE 0", x.set(7, 2), 1);
        Check.due("KETTLES at MINUTE 0", x.set(7, 1), 2);
        Check.due("none of these was refused", x.count(13), 0);
        FilledForOne first = Office.of("c20000130;");
        first.go(1);
        Check.due("KETTLES at MINUTE 1", first.set(7, 2), -3);
    }

    /** "go: n MINUTES (1 .. 60; fewer, if the DAY is OVER): -4; -6; -3 it is OVER." */
    private static void go() {
        Twins.refused("go(0)", x -> x.go(0), -4);
        Twins.refused("go(-1)", x -> x.go(-1), -4);
        Twins.refused("go(lowest)", x -> x.go(LOWEST), -4);
        Twins.refused("go(61)", x -> x.go(61), -6);
        Twins.refused("go(highest)", x -> x.go(HIGHEST), -6);
        refused(OVER, "go(1)", x -> x.go(1), -3);
        refused(OVER, "go(60)", x -> x.go(60), -3);
        FilledForOne x = Office.of("c10119130;");
        Check.due("go(1)", x.go(1), 1);
        Check.due("go(60)", x.go(60), 61);
        Check.due("go(59)", x.go(59), 120);
        Check.due("fewer", x.go(60), 122);
        Check.due("go(1)", x.go(1), -3);
    }

    /** "line: The i-th in the LINE; -9. -4." */
    private static void line() {
        Twins.refused("line(-1)", x -> x.line(-1), -4);
        Twins.refused("line(lowest)", x -> x.line(LOWEST), -4);
        FilledForOne x = State.MIDDAY.make();
        int[] want = {2, 4, -9, -9};
        for (int i = 0; i < want.length; i++) {
            Check.due("line(" + i + ")", x.line(i), want[i]);
        }
        Check.due("line(7)", x.line(7), -9);
        Check.due("line(8)", x.line(8), -9);
        Check.due("line(highest)", x.line(HIGHEST), -9);
        FilledForOne eight = Office.of("s1=9;" + "c10000130;".repeat(8));
        Check.due("nobody yet", eight.line(0), -9);
        eight.go(1);
        Check.due("the first of eight", eight.line(0), 0);
        Check.due("the last of eight", eight.line(7), 7);
        Check.due("a ninth", eight.line(8), -9);
    }

    /** "rest: -2." "marks: -2." */
    private static void whats() {
        int[] rests = {-1, LOWEST, 5, HIGHEST};
        for (int what : rests) {
            Twins.refused("rest(" + what + ")", x -> x.rest(what), -2);
        }
        int[] marks = {-1, LOWEST, 2, HIGHEST};
        for (int what : marks) {
            Twins.refused("marks(" + what + ")", x -> x.marks(what), -2);
        }
    }

    /** "when: -1." */
    private static void when() {
        int[] none = {-1, LOWEST, 8, HIGHEST};
        for (int i : none) {
            Twins.refused("when(" + i + ")", x -> x.when(i), -1);
        }
        Twins.refused("when behind the last", x -> x.when(x.count(0)), -1);
    }

    /** "best: -1; -2." */
    private static void best() {
        int[] none = {-1, LOWEST, 8, HIGHEST};
        for (int i : none) {
            Twins.refused("best(" + i + ", 0)", x -> x.best(i, 0), -1);
            Twins.refused("best(" + i + ", 2)", x -> x.best(i, 2), -1);
        }
        Twins.refused("best behind the last", x -> x.best(x.count(0), 1), -1);
        int[] others = {-1, LOWEST, 2, HIGHEST};
        for (int what : others) {
            refused(WITH_COMERS, "best(0, " + what + ")", x -> x.best(0, what), -2);
        }
    }

    /** "Of rounds() 1000000000 less them", counted as -2 all the same. */
    private static void rounds() {
        int[] others = {-1, LOWEST, 4, HIGHEST};
        for (int what : others) {
            Twins.refused("rounds(" + what + ")", x -> x.rounds(what), 1000000002);
        }
    }

    /** "urn: -4; -6 99." */
    private static void urn() {
        Twins.refused("urn(-1)", x -> x.urn(-1), -4);
        Twins.refused("urn(lowest)", x -> x.urn(LOWEST), -4);
        Twins.refused("urn(100)", x -> x.urn(100), -6);
        Twins.refused("urn(highest)", x -> x.urn(HIGHEST), -6);
    }

    /** "least: -2; -3 some COMER WANTS more than HOLDS." */
    private static void least() {
        int[] others = {-1, LOWEST, 2, HIGHEST};
        for (int what : others) {
            Twins.refused("least(" + what + ")", x -> x.least(what), -2);
        }
        FilledForOne x = Office.of("s0=2;c00000330;");
        FilledForOne twin = Office.of("s0=2;c00000330;");
        Check.due("least(2), and WANTS 3 of 2", x.least(2), -2);
        twin.rest(5);
        Check.due("least(0), WANTS 3 of 2", x.least(0), -3);
        Twins.alike("least(0), WANTS 3 of 2", x, twin, 3);
        Check.due("WANTS 3 of 3", Office.of("s0=3;c00000330;").least(1), 1);
        Check.due("WANTS 2 of 2", Office.of("s0=2;c00000230;").least(1), 1);
        Check.due("the last one, too", Office.of("s0=2;c00000230;c00000330;").least(1), -3);
    }

    /** "ferry: -4 either (n below 1); -6 either." */
    private static void ferry() {
        int[][] below = {{0, 0}, {-1, 0}, {LOWEST, 0}, {1, -1}, {1, LOWEST}, {0, -1}, {0, 61}, {9, -1}};
        for (int[] b : below) {
            Twins.refused("ferry(" + b[0] + ", " + b[1] + ")", x -> x.ferry(b[0], b[1]), -4);
        }
        int[][] above = {{9, 0}, {HIGHEST, 0}, {1, 61}, {1, HIGHEST}, {9, 61}};
        for (int[] a : above) {
            Twins.refused("ferry(" + a[0] + ", " + a[1] + ")", x -> x.ferry(a[0], a[1]), -6);
        }
    }

    /** "times: -4 below 1; -6 60." "better: -4 below 1; -6 60." */
    private static void timesAndBetter() {
        int[] below = {0, -1, LOWEST};
        for (int w : below) {
            Twins.refused("times(" + w + ")", x -> x.times(w), -4);
            Twins.refused("better(" + w + ")", x -> x.better(w), -4);
        }
        int[] above = {61, HIGHEST};
        for (int w : above) {
            Twins.refused("times(" + w + ")", x -> x.times(w), -6);
            Twins.refused("better(" + w + ")", x -> x.better(w), -6);
        }
    }

    /** "row: A number more of the ROW: how many. -4; -6 (99; 12, too)." */
    private static void row() {
        Twins.refused("row(-1)", x -> x.row(-1), -4);
        Twins.refused("row(lowest)", x -> x.row(LOWEST), -4);
        Twins.refused("row(100)", x -> x.row(100), -6);
        Twins.refused("row(highest)", x -> x.row(HIGHEST), -6);
        Twins.refused(State.FULL, "row(0), a 13th", x -> x.row(0), -6);
        Twins.refused(State.FULL, "row(99), a 13th", x -> x.row(99), -6);
        FilledForOne x = new FilledForOne();
        for (int i = 1; i <= 12; i++) {
            Check.due("row of " + i, x.row(i % 2 == 0 ? 99 : 0), i);
        }
        Check.due("a 13th", x.row(0), -6);
        Check.due("judge", x.judge(), 1);
        Check.due("the first of a new ROW", x.row(0), 1);
    }

    /** "fits: -4; -6 11." */
    private static void fits() {
        Twins.refused("fits(-1)", x -> x.fits(-1), -4);
        Twins.refused("fits(lowest)", x -> x.fits(LOWEST), -4);
        Twins.refused("fits(12)", x -> x.fits(12), -6);
        Twins.refused("fits(highest)", x -> x.fits(HIGHEST), -6);
    }

    /** "seeds: -4; -6 20; -2." */
    private static void seeds() {
        int[] whats = {0, 1, 2, -1};
        for (int what : whats) {
            Twins.refused("seeds(0, 1, " + what + ")", x -> x.seeds(0, 1, what), -4);
            Twins.refused("seeds(lowest, 1, " + what + ")", x -> x.seeds(LOWEST, 1, what), -4);
            Twins.refused("seeds(21, 1, " + what + ")", x -> x.seeds(21, 1, what), -6);
            Twins.refused("seeds(highest, 1, " + what + ")", x -> x.seeds(HIGHEST, 1, what), -6);
        }
        int[] others = {-1, LOWEST, 2, HIGHEST};
        for (int what : others) {
            Twins.refused("seeds(1, 1, " + what + ")", x -> x.seeds(1, 1, what), -2);
            Twins.refused("seeds(20, -1, " + what + ")", x -> x.seeds(20, -1, what), -2);
        }
    }

    /** "restore: -3 there is none." */
    private static void restore() {
        Twins.refused(State.NEW, "restore()", x -> x.restore(), -3);
        Twins.refused(State.MORNING, "restore()", x -> x.restore(), -3);
        Twins.refused(State.FULL, "restore()", x -> x.restore(), -3);
        FilledForOne x = State.NEW.make();
        Check.due("image of nobody", x.image(), 0);
        Check.due("there is one", x.restore(), 0);
        Check.due("there is one still", x.restore(), 0);
        Check.due("refused so far", x.count(13), 0);
    }

    /** "In mind": each question at its bounds, and nothing is other behind it. */
    private static void askedInMind() {
        for (int i = 0; i <= 4; i++) {
            int what = i;
            Twins.onlyAsked("rest(" + what + ")", x -> x.rest(what));
        }
        for (int i = 0; i <= 3; i++) {
            int what = i;
            Twins.onlyAsked("rounds(" + what + ")", x -> x.rounds(what));
        }
        for (int i = 0; i <= 1; i++) {
            int what = i;
            Twins.onlyAsked("marks(" + what + ")", x -> x.marks(what));
            Twins.onlyAsked("least(" + what + ")", x -> x.least(what));
            Twins.onlyAsked("seeds(1, lowest, " + what + ")", x -> x.seeds(1, LOWEST, what));
            Twins.onlyAsked("seeds(20, highest, " + what + ")", x -> x.seeds(20, HIGHEST, what));
            for (State state : WITH_COMERS) {
                Twins.onlyAsked(state, "best(0, " + what + ")", x -> x.best(0, what));
                Twins.onlyAsked(state, "best(last, " + what + ")", x -> x.best(x.count(0) - 1, what));
            }
        }
        for (State state : WITH_COMERS) {
            Twins.onlyAsked(state, "when(0)", x -> x.when(0));
            Twins.onlyAsked(state, "when(last)", x -> x.when(x.count(0) - 1));
        }
        Twins.onlyAsked("second()", x -> x.second());
        Twins.onlyAsked("follow()", x -> x.follow());
        Twins.onlyAsked("urn(0)", x -> x.urn(0));
        Twins.onlyAsked("urn(99)", x -> x.urn(99));
        int[][] ferries = {{1, 0}, {1, 60}, {8, 0}, {8, 60}};
        for (int[] f : ferries) {
            Twins.onlyAsked("ferry(" + f[0] + ", " + f[1] + ")", x -> x.ferry(f[0], f[1]));
        }
        int[] bounds = {1, 60};
        for (int w : bounds) {
            Twins.onlyAsked("times(" + w + ")", x -> x.times(w));
            Twins.onlyAsked("better(" + w + ")", x -> x.better(w));
        }
        Twins.onlyAsked("fits(0)", x -> x.fits(0));
        Twins.onlyAsked("fits(11)", x -> x.fits(11));
    }

    /** What only tells how things are changes nothing, and so does a kind or a number set as it was. */
    private static void askedOfWhatIs() {
        for (int i = 0; i <= 7; i++) {
            int n = i;
            for (State state : WITH_COMERS) {
                Twins.onlyAsked(state, "comer(0, " + n + ")", x -> x.comer(0, n));
            }
            Twins.onlyAsked("set(" + n + ", as it is)", x -> x.set(n, x.count(20 + n)));
            Twins.onlyAsked("line(" + n + ")", x -> x.line(n));
        }
        for (int i = 0; i <= 3; i++) {
            int what = i;
            Twins.onlyAsked("kettle(0, " + what + ")", x -> x.kettle(0, what));
        }
        for (State state : WITH_COMERS) {
            Twins.onlyAsked(state, "kind(0, as it is)", x -> x.kind(0, x.comer(0, 0), x.comer(0, 1)));
        }
        Twins.onlyAsked("line(highest)", x -> x.line(HIGHEST));
        Twins.onlyAsked("count(lowest)", x -> x.count(LOWEST));
        Twins.onlyAsked("count(highest)", x -> x.count(HIGHEST));
    }

    /** "11 .. 16 REFUSALS -1 .. -6. -9 for another what." */
    private static void counted() {
        FilledForOne x = Office.of("c00000130;");
        int[] none = {LOWEST, -9, -1, 9, 10, 17, 18, 19, 28, 29, HIGHEST};
        for (int what : none) {
            Check.due("count(" + what + ")", x.count(what), -9);
        }
        for (int i = 1; i <= 3; i++) {
            x.comer(1, 0);
            x.comer(0, 8);
            x.restore();
            x.line(-1);
            x.fits(12);
            x.rounds(4);
            int[] want = {i, 2 * i, i, i, 0, i};
            for (int code = 1; code <= 6; code++) {
                Check.due("count(" + (10 + code) + ")", x.count(10 + code), want[code - 1]);
            }
        }
        x.anew();
        Check.due("refusals stay on a DAY ANEW", x.count(12), 6);
        x.office();
        Check.due("a FAULT is counted nowhere", x.count(11) + x.count(13) + x.count(14) + x.count(16), 12);
    }
}
