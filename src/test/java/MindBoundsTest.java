import java.math.BigInteger;

/**
 * The bounds that part II of the document, 'In mind', names, sentence by sentence, and what is answered
 * where nobody is there. The sentence stands over its test; every answer is worked out by hand.
 */
public final class MindBoundsTest {
    /** Five COMERS without their MINUTES, in two parts: what stands ahead of it and what stands behind. */
    private static final String[] DRAWN = {"c00", "c20", "c49", "c50", "c11"};
    private static final String[] PATIENT = {"104;", "230;", "302;", "105;", "103;"};

    private MindBoundsTest() {
    }

    public static void main(String[] args) {
        nobody();
        rest();
        when();
        best();
        rounds();
        marks();
        second();
        urn();
        least();
        ferry();
        times();
        better();
        follow();
        judged();
        fits();
        seeds();
        fromMinuteNow();
        Check.end();
    }

    private static void due(String what, long got, long want) {
        Check.due(what, got, want);
    }

    /** What is answered without COMERS. */
    private static void nobody() {
        FilledForOne x = new FilledForOne();
        for (int what = 0; what <= 4; what++) {
            due("nobody: rest(" + what + ")", x.rest(what), 0);
        }
        int[] rounds = {1, 0, 0, 0};
        for (int what = 0; what <= 3; what++) {
            due("nobody: rounds(" + what + ")", x.rounds(what), rounds[what]);
        }
        due("nobody: line(0)", x.line(0), -9);
        due("nobody: marks(0)", x.marks(0), 0);
        due("nobody: marks(1)", x.marks(1), 0);
        due("nobody: second()", x.second(), 0);
        due("nobody: urn(0), 0 is not less than 0", x.urn(0), 0);
        due("nobody: urn(99)", x.urn(99), 0);
        due("nobody: least(0)", x.least(0), 0);
        due("nobody: least(1)", x.least(1), 0);
        due("nobody: ferry(1, 60)", x.ferry(1, 60), 0);
        due("nobody: ferry(8, 60)", x.ferry(8, 60), 0);
        due("nobody: times(60)", x.times(60), 0);
        due("nobody: better(60)", x.better(60), -9);
        due("nobody: follow()", x.follow(), -9);
        due("nobody: judge()", x.judge(), -9);
        due("nobody: seeds(20, 1, 0)", x.seeds(20, 1, 0), 0);
        due("nobody: seeds(20, 1, 1)", x.seeds(20, 1, 1), 0);
        due("nobody: fits(1)", x.fits(1), 0);
    }

    private static void dueRest(String when, FilledForOne x, int... want) {
        for (int what = 0; what < want.length; what++) {
            due(when + ": rest(" + what + ")", x.rest(what), want[what]);
        }
    }

    /** "all WAITED (those till now, too), GONE, times a KETTLE is put on from now, cups left, COST" */
    private static void rest() {
        // SERVED at 5; GONE at 11 while 3 cups and the 7 left boil, put on at 100
        FilledForOne x = Office.of("c20000130;c60100300;s3=1;");
        dueRest("at 0", x, 5, 1, 2, 7, 28);
        x.go(1);
        dueRest("put on in MINUTE 0", x, 5, 1, 1, 7, 28);
        Office.goTo(x, 100);
        dueRest("before the second boil", x, 5, 1, 1, 7, 28);
        x.go(1);
        dueRest("behind the second boil", x, 5, 1, 0, 7, 28);
        due("OVER", x.go(60), 103);
        dueRest("the DAY is OVER", x, 5, 1, 0, 7, 28);
        due("MINUTE as it was", x.count(1), 103);
    }

    /** "WHEN one is SERVED: the MINUTE; -9." */
    private static void when() {
        FilledForOne x = Office.of("c20000130;c10005100;c10006102;c10119100;");
        int[] want = {5, 5, 6, -9};
        for (int i = 0; i < want.length; i++) {
            due("when(" + i + ")", x.when(i), want[i]);
        }
        due("when(4)", x.when(4), -1);
        due("when(-1)", x.when(-1), -1);
        Office.goTo(x, 121);
        due("SERVED long ago", x.when(0), 5);
        due("GONE by now", x.when(3), -9);
    }

    private static void best() {
        due("of several the least KIND", Office.of("c20000130;").best(0, 0), 0);
        // 2 cups take till 5, 1 cup till 3; a LINE's and TOLD's cup is as good as a ONE's
        due("not SERVED counts 99", Office.of("s2=20;c00000103;").best(0, 0), 1);
        due("not SERVED by any KIND", Office.of("s0=2;c60000330;").best(0, 0), 0);
        due("for all: no cup left", Office.of("c00000130;").best(0, 1), 1);
        due("for all: of several the least", Office.of("s5=0;c60000130;").best(0, 1), 0);
        due("for all: all KINDS cost nothing", Office.of("s4=0;s5=0;c60000130;").best(0, 1), 0);
        FilledForOne last = Office.of("c10000130;".repeat(7) + "c00100130;");
        due("the last COMER", last.best(7, 1), 1);
        due("no COMER 8", last.best(8, 1), -1);
        bestByFigure();
    }

    /** By 7 cups all WAITED is 10, by 2 it is 11, by 1 it is 13, by 11 it is 16 and 4 cups are left. */
    private static void bestByFigure() {
        FilledForOne x = Office.of("s6=0;s0=11;c17000130;c10001330;c10001330;");
        due("FIGURE 7: BEST and TOLD boil 7 cups", x.best(0, 1), 4);
        x.kind(0, 1, 1);
        due("FIGURE 1: BEST does still", x.best(0, 1), 4);
        x.kind(0, 1, 0);
        due("FIGURE 0: none does", x.best(0, 1), 0);
        due("KIND and FIGURE as they were", x.kind(0, 1, 0), 10);
    }

    private static void dueRounds(String office, int... want) {
        FilledForOne x = Office.of(office);
        for (int what = 0; what < want.length; what++) {
            due("rounds(" + what + ") of " + office, x.rounds(what), want[what]);
        }
    }

    /** "till in one nobody changes (20 at most): how many rounds (that one too)" */
    private static void rounds() {
        dueRounds("c00000130;", 1, 0, 4, 2);
        dueRounds("c60000130;", 2, 0, 4, 2);
        // COMER 1 leaves a cup as a FILLER; so COMER 0, who comes later, takes ONE in round 2
        dueRounds("c13003330;c40000119;", 3, 1, 4, -1);
        // FILLER for all costs 2, ONE for all would cost 4
        dueRounds("c20000130;c20002130;", 2, 0, 2, 0);
        // KETTLE 1's 2 cups are ready before KETTLE 0's 3: they give way to each other for ever
        dueRounds("s7=2;c23000230;c31000130;", 20, 10, 7, 3);
        // COMER 0 is GONE whatever it fills, COMER 1 finds its cup HOT, the others have time for ONE cup
        dueRounds("s2=20;c60000100;c60010103;c60020103;c60030103;c60040103;c60050103;c60060103;c60070103;",
                2, 11111100);
        FilledForOne x = Office.of("c60000130;");
        x.rounds(1);
        due("KIND as it was", x.comer(0, 0), 6);
    }

    /** "the MARK (0 .. HOLDS) by which a DAY ANEW costs least, of several the least" */
    private static void marks() {
        dueMarks("c10000130;", 0, 2);
        dueMarks("c50000130;", 0, 2);
        dueMarks("s4=0;s5=0;c50000130;", 0, 0);
        // a cup for one each: of 2 the other waits for 1 MINUTE, else for 3
        dueMarks("s0=2;c50000130;c50001130;", 2, 3);
        dueMarks("s0=3;c50000130;c50001130;", 2, 3);
        // three of them: 3 cups at 3 cost 7; of 2 HOLDS the last boils 2 more till 4
        dueMarks("s0=2;c50000130;c50001130;c50001130;", 2, 8);
        dueMarks("s0=3;c50000130;c50001130;c50001130;", 3, 7);
        dueMarks("s0=4;c50000130;c50001130;c50001130;", 3, 7);
        due("MARK as it was", Office.of("s6=11;c50000130;").count(26), 11);
    }

    private static void dueMarks(String office, int mark, int cost) {
        FilledForOne x = Office.of(office);
        due("marks(0) of " + office, x.marks(0), mark);
        due("marks(1) of " + office, x.marks(1), cost);
    }

    /** "by how much a DAY ANEW costs less with 2 KETTLES than with 1 (may be below 0)" */
    private static void second() {
        due("it saves", Office.of("c10000130;c10000130;").second(), 2);
        due("it makes no other", Office.of("c10000130;").second(), 0);
        due("it loses", Office.of("c20000130;c20000130;").second(), -16);
        due("it saves, with two there", Office.of("s7=2;c10000130;c10000130;").second(), 2);
    }

    /** "the hours .., begun ones counted whole (1 at least ..), times v: whether that is less" */
    private static void urn() {
        // each waits for its ONE cup for 2 MINUTES, so that a DAY costs 4
        int[][] spans = {{3, 1}, {59, 1}, {60, 1}, {61, 2}, {119, 2}};
        for (int[] s : spans) {
            FilledForOne x = Office.of(String.format("c10%03d130;c10000130;", s[0]));
            for (int v = 0; v <= 5; v++) {
                due("urn(" + v + "), " + s[0] + " MINUTES", x.urn(v), s[1] * v < 4 ? 1 : 0);
            }
        }
        FilledForOne one = Office.of("c10119130;");
        due("1 at least: 1 for 2", one.urn(1), 1);
        due("1 at least: 2 for 2", one.urn(2), 0);
        due("1 at least: 99 for 2", one.urn(99), 0);
        FilledForOne same = Office.of("c10060130;c10060130;");
        due("all at once: 5 for 6", same.urn(5), 1);
        due("all at once: 6 for 6", same.urn(6), 0);
    }

    private static void dueLeast(String office, int cost, int rows) {
        FilledForOne x = Office.of(office);
        due("least(0) of " + office, x.least(0), cost);
        due("least(1) of " + office, x.least(1), rows);
    }

    private static void least() {
        leastAtBounds();
        leastRowHolds();
        leastOfSeveral();
        FilledForOne x = Office.of("s0=2;c00000230;");
        due("WANTS as HOLDS", x.least(0), 5);
        Office.tell(x, "c00119330;");
        due("one WANTS more than HOLDS", x.least(0), -3);
        due("one WANTS more than HOLDS", x.least(1), -3);
        due("what comes first", x.least(2), -2);
        due("3 HOLDS", x.set(0, 3), 2);
        due("now it WANTS as HOLDS", x.least(0), 11);
    }

    /** "begins as the last of its row is there and the one ahead has ended", "rounded up, 1 at least" */
    private static void leastAtBounds() {
        dueLeast("s2=1;s1=0;c00000130;", 4, 1);
        dueLeast("s2=9;s1=0;c00000130;", 4, 1);
        dueLeast("s2=10;s1=0;c00000130;", 4, 1);
        dueLeast("s2=11;s1=0;c00000130;", 5, 1);
        dueLeast("s2=20;s1=9;c00000330;", 18, 1);
        // the first boil ends at 2
        dueLeast("s0=3;c00000230;c00001230;", 11, 3);
        dueLeast("s0=3;c00000230;c00002230;", 10, 3);
        dueLeast("s0=3;c00000230;c00003230;", 10, 3);
        // PATIENCE aside
        dueLeast("c00000100;", 5, 1);
        dueLeast("s4=0;c00000100;", 3, 1);
        dueLeast("s4=9;c00000100;", 21, 1);
    }

    /** "a row has no more WANTS than HOLDS" */
    private static void leastRowHolds() {
        String four = "s4=0;c00000230;c00000230;c00000230;c00000230;";
        dueLeast("s0=8;" + four, 3, 8);
        dueLeast("s0=7;" + four, 6, 9);
        dueLeast("s0=5;" + four, 6, 10);
        dueLeast("s0=3;" + four, 12, 15);
        dueLeast("s4=0;" + "c00000130;".repeat(8), 3, 128);
        dueLeast("s4=0;s0=7;" + "c00000130;".repeat(8), 6, 129);
    }

    /** "of several the least bits": one row costs 7 and the MINUTES between, two cost 10. */
    private static void leastOfSeveral() {
        dueLeast("c00000130;c00002130;", 9, 2);
        dueLeast("c00000130;c00003130;", 10, 2);
        dueLeast("c00000130;c00004130;", 10, 3);
        // by MINUTE: the k-th is not the k-th COMER
        dueLeast("c00050130;c00000130;c00050130;", 12, 5);
        // 1 and 1 cups till 3, then 3 cups from 50 till 53
        dueLeast("s0=3;c00050330;c00000130;c00001130;", 14, 6);
    }

    private static void dueFerry(FilledForOne x, int n, int w, int want) {
        due("ferry(" + n + ", " + w + ")", x.ferry(n, w), want);
    }

    /** "it goes whenever n are there; the rest at the last one's MINUTE and w (0 .. 60): all waited" */
    private static void ferry() {
        FilledForOne x = Office.of("c00010130;c00000130;c00119130;");
        dueFerry(x, 1, 0, 0);
        dueFerry(x, 1, 60, 0);
        dueFerry(x, 2, 0, 10);
        dueFerry(x, 2, 1, 11);
        dueFerry(x, 2, 60, 70);
        dueFerry(x, 3, 0, 228);
        dueFerry(x, 3, 60, 228);
        dueFerry(x, 4, 0, 228);
        dueFerry(x, 4, 1, 231);
        dueFerry(x, 8, 60, 408);
        dueFerry(x, 0, 0, -4);
        dueFerry(x, 1, -1, -4);
        dueFerry(x, 9, 0, -6);
        dueFerry(x, 8, 61, -6);
        FilledForOne eight = Office.of("c00007130;".repeat(7) + "c00017130;");
        dueFerry(eight, 8, 60, 70);
        dueFerry(eight, 7, 60, 60);
        dueFerry(eight, 7, 0, 0);
        dueFerry(eight, 4, 60, 30);
    }

    private static void dueTimes(int minute, int w, int want) {
        FilledForOne x = Office.of(String.format("c00%03d130;", minute));
        due("times(" + w + ") of one at " + minute, x.times(w), want);
    }

    /** "it goes each w-th MINUTE (w 1 .. 60: at w, 2 w, ..; 0 too) with all who are there" */
    private static void times() {
        dueTimes(0, 60, 0);
        dueTimes(1, 60, 59);
        dueTimes(59, 60, 1);
        dueTimes(60, 60, 0);
        dueTimes(61, 60, 59);
        dueTimes(119, 60, 1);
        dueTimes(119, 1, 0);
        dueTimes(119, 59, 58);
        dueTimes(118, 59, 0);
        dueTimes(1, 2, 1);
        due("all waited", Office.of("c00001130;c00004130;c00004130;").times(5), 6);
        due("times(0)", Office.of("c00001130;").times(0), -4);
        due("times(61)", Office.of("c00001130;").times(61), -6);
    }

    /** "by which FERRY is less than AT TIMES of that w by most, of several the least; -9 none" */
    private static void better() {
        FilledForOne x = Office.of("c00060130;c00059130;");
        due("AT TIMES waits for 1 MINUTE", x.better(60), 1);
        due("AT TIMES waits for none", x.better(1), -9);
        due("w 59: one waits for 58", x.better(59), 1);
        FilledForOne none = Office.of("c00060130;c00000130;c00060130;");
        due("all come as it goes", none.better(60), -9);
        due("better(0)", x.better(0), -4);
        due("better(61)", x.better(61), -6);
        due("of 1, 2, 4 and 8 the least", Office.of("c00007130;".repeat(8)).better(60), 1);
    }

    /** "of several the least; -9 no COMERS" */
    private static void follow() {
        due("one COMER", Office.of("c20000130;").follow(), 0);
        due("of several the least", Office.of("c20000130;c20003130;c20005130;").follow(), 0);
        // ONE for all costs 4, FILLER for all 2
        due("COMER 0 has the other's KIND, too", Office.of("c10000130;c00002130;").follow(), 1);
        due("of several the least, behind a worse one", Office.of("c20000130;c10020130;c10040130;").follow(), 1);
        // FULL: 40 WAITED and 7 cups are left; ONE: 58 WAITED and none
        due("the last of eight", Office.of("s5=9;" + "c20000130;".repeat(7) + "c10100130;").follow(), 7);
    }

    private static void dueJudge(FilledForOne x, int want, int... row) {
        for (int v : row) {
            x.row(v);
        }
        due("judge of " + row.length + " numbers at " + x.count(1), x.judge(), want);
        due("the ROW has none then", x.count(8), 0);
    }

    /** "LEVEL of KETTLE 0 at the ends of MINUTES from now on, in mind (behind the end as it is left)" */
    private static void judged() {
        FilledForOne x = Office.of("s1=0;s7=2;c10000130;c20000130;");
        dueJudge(x, -9);
        dueJudge(x, -9, 1);
        dueJudge(x, 0, 0);
        dueJudge(x, 0, 2);
        dueJudge(x, 1, 1, 1);
        dueJudge(x, -9, 1, 0, 0, 0);
        dueJudge(x, 3, 1, 0, 0, 1);
        due("in mind", x.count(1), 0);
        // OVER at 5, and KETTLE 0 is left with 7 cups
        FilledForOne left = Office.of("c20000130;");
        dueJudge(left, -9, 8, 8, 8, 8, 8, 7, 7, 7, 7, 7, 7, 7);
        dueJudge(left, 11, 8, 8, 8, 8, 8, 7, 7, 7, 7, 7, 7, 99);
        Office.goTo(left, 5);
        dueJudge(left, 1, 7, 8);
        left.go(1);
        due("OVER", left.count(5), 1);
        dueJudge(left, -9, 7, 7);
        dueJudge(left, 1, 7, 0);
        dueJudge(new FilledForOne(), 1, 0, 1, 0);
    }

    private static void dueFits(String office, int minute, int... want) {
        FilledForOne x = Office.of(office);
        Office.goTo(x, minute);
        for (int cups = 0; cups < want.length; cups++) {
            due("fits(" + cups + ") of " + office, x.fits(cups), want[cups]);
        }
        due("fits(-1)", x.fits(-1), -4);
        due("fits(12)", x.fits(12), -6);
    }

    /** "KINDS (bits) of the first of the LINE (FIGURE as it is) .. now; 0 nobody is there" */
    private static void fits() {
        dueFits("c20000130;", 0, 0, 0, 0, 0, 0, 0, 0, 0, 0, 0, 0, 0);
        // ONE 1, FILLER 2, MARKED 3, LINE 4, BEST 4, TOLD 5, FULL 11
        dueFits("s0=11;s1=9;c15000130;c10000330;", 1, 0, 2, 1, 32, 24, 64, 0, 0, 0, 0, 0, 4);
        // one comes at 6: it is in BEST's count at 1 by 5 MINUTES
        dueFits("s0=11;s1=9;c15000130;c10000330;c10006130;", 1, 0, 2, 1, 32, 8, 80, 0, 0, 0, 0, 0, 4);
        dueFits("s0=11;s1=9;c15000130;c10000330;c10007130;", 1, 0, 2, 1, 32, 24, 64, 0, 0, 0, 0, 0, 4);
        dueFits("s0=2;c29000330;", 1, 0, 0, 127, 0, 0);
        FilledForOne over = State.EVENING.make();
        due("nobody is there any more", over.fits(2), 0);
    }

    /** "SEEDS with a seed z: n DAYS ANEW (1 .. 20), each COMER at a DRAW below 120: all COST; GONE." */
    private static void seeds() {
        int[] seeds = {0, 1, 2, -1, 5, 12345, 2147483647, -2147483648, 2147483646, -2147483647, 1103515245};
        for (int z : seeds) {
            dueSeeds(1, z);
            dueSeeds(2, z);
            dueSeeds(20, z);
        }
        FilledForOne x = Office.of("c00000130;");
        due("seeds(0, 1, 0)", x.seeds(0, 1, 0), -4);
        due("seeds(21, 1, 0)", x.seeds(21, 1, 0), -6);
        drawsOfOne();
    }

    /** "In mind, from MINUTE now": what was asked before does not matter, as soon as things are other. */
    private static void fromMinuteNow() {
        String[] names = {"rest(4)", "rest(3)", "when(1)", "best(1, 1)", "rounds(2)", "marks(1)", "second()",
            "urn(8)", "least(0)", "follow()", "seeds(1, 1, 0)", "judge()"};
        Twins.Call[] questions = {x -> x.rest(4), x -> x.rest(3), x -> x.when(1), x -> x.best(1, 1),
            x -> x.rounds(2), x -> x.marks(1), x -> x.second(), x -> x.urn(8), x -> x.least(0), x -> x.follow(),
            x -> x.seeds(1, 1, 0), x -> x.row(1) == 1 ? x.judge() : 0};
        int[] before = {8, 1, 4, 1, 4, 8, 2, 0, 7, 1, 6, -9};
        int[] behind = {20, 0, 10, 0, 20, 20, 0, 1, 23, 0, 11, 0};
        for (int i = 0; i < questions.length; i++) {
            FilledForOne x = Office.of("c10000130;c00000130;");
            due(names[i], questions[i].on(x), before[i]);
            x.set(1, 9);
            x.set(5, 0);
            x.kind(0, 0, 0);
            x.kind(1, 1, 0);
            due(names[i] + " of other KINDS, with a longer walk", questions[i].on(x), behind[i]);
            due("COST behind " + names[i], x.rest(4), 20);
        }
        FilledForOne followed = Office.of("c20000130;c10000130;");
        due("all ONE for 6, all FULL for 22", followed.follow(), 1);
        followed.set(1, 9);
        followed.set(5, 0);
        due("all ONE for 30, all FULL for 26", followed.follow(), 0);
    }

    /** The days are told as offices, so that rest() answers for each. */
    private static void dueSeeds(int n, int z) {
        FilledForOne x = new FilledForOne();
        for (int i = 0; i < DRAWN.length; i++) {
            Office.tell(x, DRAWN[i] + "000" + PATIENT[i]);
        }
        BigInteger state = BigInteger.valueOf(z);
        int cost = 0;
        int gone = 0;
        for (int day = 0; day < n; day++) {
            FilledForOne told = new FilledForOne();
            for (int i = 0; i < DRAWN.length; i++) {
                state = next(state);
                Office.tell(told, DRAWN[i] + String.format("%03d", draw(state, 120)) + PATIENT[i]);
            }
            cost += told.rest(4);
            gone += told.rest(1);
        }
        due("seeds(" + n + ", " + z + ", 0)", x.seeds(n, z, 0), cost);
        due("seeds(" + n + ", " + z + ", 1)", x.seeds(n, z, 1), gone);
        due("MINUTES as they were", x.comer(DRAWN.length - 1, 2), 0);
    }

    /** "z becomes z times 1103515245 plus 12345 (an int, wrapping)" */
    private static BigInteger next(BigInteger z) {
        BigInteger two32 = BigInteger.ONE.shiftLeft(32);
        BigInteger wrapped = z.multiply(BigInteger.valueOf(1103515245)).add(BigInteger.valueOf(12345)).mod(two32);
        return wrapped.testBit(31) ? wrapped.subtract(two32) : wrapped;
    }

    /** "(z without its sign's bit, over 65536, cut) modulo n" */
    private static int draw(BigInteger z, int n) {
        BigInteger unsigned = z.mod(BigInteger.ONE.shiftLeft(31));
        return unsigned.divide(BigInteger.valueOf(65536)).mod(BigInteger.valueOf(n)).intValue();
    }

    /** The numbers by which the draws are known to be right: of seed 1 they are 38, 118 and 33. */
    private static void drawsOfOne() {
        int[] want = {38, 118, 33};
        BigInteger z = BigInteger.ONE;
        for (int i = 0; i < want.length; i++) {
            z = next(z);
            due("draw " + i + " of seed 1", draw(z, 120), want[i]);
        }
    }
}
