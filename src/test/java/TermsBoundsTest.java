/**
 * The bounds that 'Terms' of the document names, sentence by sentence: at the bound and one beyond it
 * on either side. The sentence stands over its test; every answer is worked out by hand.
 */
public final class TermsBoundsTest {
    private static final int[] LEAST = {2, 0, 1, 1, 0, 0, 0, 1};
    private static final int[] GREATEST = {11, 9, 20, 9, 9, 9, 11, 2};
    private static final int[] FIRST = {8, 1, 4, 3, 1, 2, 3, 1};

    private TermsBoundsTest() {
    }

    public static void main(String[] args) {
        settings();
        comersAndKinds();
        kettles();
        upTo();
        minuteGoesBy();
        dayOver();
        Check.end();
    }

    private static void due(String what, long got, long want) {
        Check.due(what, got, want);
    }

    private static void settings() {
        rangeOfEachSetting();
        holds();
        tap();
        heat();
        cools();
        waitAndWaste();
        mark();
        kettlesSetting();
    }

    /** "SETTINGS: 0 HOLDS (2 .. 11 cups; 8), 1 TAP (0 .. 9 ..; 1), .. 7 KETTLES (1 or 2; 1)." */
    private static void rangeOfEachSetting() {
        for (int s = 0; s <= 7; s++) {
            FilledForOne x = new FilledForOne();
            due("setting " + s + " at first", x.count(20 + s), FIRST[s]);
            due("set to the least", x.set(s, LEAST[s]), FIRST[s]);
            due("set below", x.set(s, LEAST[s] - 1), -4);
            due("still the least", x.count(20 + s), LEAST[s]);
            due("set to the greatest", x.set(s, GREATEST[s]), LEAST[s]);
            due("set above", x.set(s, GREATEST[s] + 1), -6);
            due("still the greatest", x.count(20 + s), GREATEST[s]);
        }
    }

    private static void holds() {
        due("2 HOLDS, filled FULL", Office.of("s0=2;c20000130;").comer(0, 7), 2);
        due("11 HOLDS, filled FULL", Office.of("s0=11;c20000130;").comer(0, 7), 11);
    }

    private static void tap() {
        due("no walk: a minute of heat", Office.of("s1=0;c10000130;").when(0), 1);
        due("a walk of 1", Office.of("s1=1;c10000130;").when(0), 2);
        due("a walk of 9", Office.of("s1=9;c10000130;").when(0), 10);
    }

    /** 8 cups by 10 degrees: 0.8 MINUTES at 1, 3.2 at 4, 16 at 20. */
    private static void heat() {
        due("HEAT 1", Office.of("s1=0;s2=1;c20000130;").when(0), 1);
        due("HEAT 4", Office.of("s1=0;s2=4;c20000130;").when(0), 4);
        due("HEAT 20", Office.of("s1=0;s2=20;c20000130;").when(0), 16);
    }

    /** 8 cups, free at 5: it has cooled from MINUTE 5 on. */
    private static void cools() {
        int[][] warmths = {{1, 6, 9}, {1, 7, 8}, {3, 7, 10}, {3, 8, 9}, {3, 10, 9}, {3, 11, 8}, {9, 13, 10}, {9, 14, 9}};
        for (int[] w : warmths) {
            FilledForOne x = Office.of("s3=" + w[0] + ";c20000130;c10100130;");
            Office.goTo(x, w[1]);
            due("COOLS " + w[0] + " at " + w[1], x.kettle(0, 1), w[2]);
        }
    }

    /** One waits 2 MINUTES and leaves 1 of 2 cups; another is GONE with 3 MINUTES of PATIENCE. */
    private static void waitAndWaste() {
        due("WAIT 0, WASTE 0", Office.of("s4=0;s5=0;c00000130;").rest(4), 0);
        due("WAIT 1, WASTE 0", Office.of("s4=1;s5=0;c00000130;").rest(4), 2);
        due("WAIT 9, WASTE 0", Office.of("s4=9;s5=0;c00000130;").rest(4), 18);
        due("WAIT 0, WASTE 1", Office.of("s4=0;s5=1;c00000130;").rest(4), 1);
        due("WAIT 0, WASTE 9", Office.of("s4=0;s5=9;c00000130;").rest(4), 9);
        due("9 for each GONE", Office.of("s1=9;s4=0;s5=0;c10000103;").rest(4), 9);
        due("9 for each of two GONE", Office.of("s1=9;s4=0;s5=0;c10000103;c10000103;").rest(4), 18);
        due("PATIENCE of one GONE is WAITED", Office.of("s1=9;s4=9;s5=0;c10000103;").rest(4), 36);
        // two boil a cup of 2 each: one cup is left in each KETTLE
        due("cups left in all KETTLES", Office.of("s7=2;s4=0;s5=3;c00000130;c00000130;").rest(4), 6);
        due("no cups left", Office.of("s4=0;s5=9;c10000130;").rest(4), 0);
    }

    private static void mark() {
        FilledForOne x = Office.of("c50000230;");
        int[][] marks = {{0, 2}, {1, 2}, {2, 2}, {3, 3}, {7, 7}, {8, 8}, {9, 8}, {11, 8}};
        for (int[] m : marks) {
            x.set(6, m[0]);
            due("WANTS 2, HOLDS 8, MARK " + m[0], x.comer(0, 7), m[1]);
        }
    }

    private static void kettlesSetting() {
        due("one KETTLE", Office.of("s7=1;").kettle(0, 0), 0);
        due("no second of one", Office.of("s7=1;").kettle(1, 0), -1);
        due("a second of two", Office.of("s7=2;").kettle(1, 0), 0);
        due("no third of two", Office.of("s7=2;").kettle(2, 0), -1);
    }

    private static void comersAndKinds() {
        eightComers();
        numbersOfAComer();
        statesOfAComer();
    }

    /** "COMERS 0 .. 7 as they come to be (8 at most)" */
    private static void eightComers() {
        FilledForOne x = new FilledForOne();
        due("comer(0) of nobody", x.comer(0, 0), -1);
        for (int i = 0; i < 8; i++) {
            due("COMER " + i + " comes", Office.tell(x, "c" + i % 7 + "0000105;"), 1);
            due("COMERS", x.count(0), i + 1);
            due("KIND of COMER " + i, x.comer(i, 0), i % 7);
            due("no COMER " + (i + 1), x.comer(i + 1, 0), -1);
        }
        due("a ninth", Office.tell(x, "c00000105;"), -2000);
        due("COMERS still", x.count(0), 8);
    }

    /** "KINDS: 0 FILLER .. 6 TOLD", "a FIGURE (0 .. 9), a MINUTE .. (0 .. 119), WANTS (1 .. 3 cups), PATIENCE (0 .. 30)" */
    private static void numbersOfAComer() {
        int[][] told = {{0, 0, 0, 1, 0}, {6, 9, 119, 3, 30}, {1, 1, 1, 2, 1}, {5, 8, 118, 2, 29}};
        for (int[] t : told) {
            String letters = String.format("c%d%d%03d%d%02d;", t[0], t[1], t[2], t[3], t[4]);
            FilledForOne x = new FilledForOne();
            due("office of " + letters, Office.tell(x, letters), 1);
            for (int what = 0; what <= 4; what++) {
                due(letters + ", " + what, x.comer(0, what), t[what]);
            }
        }
        String[] beyond = {"c70000105;", "c90000105;", "c00120105;", "c00999105;", "c00000005;", "c00000405;",
            "c00000905;", "c00000131;", "c00000199;"};
        for (String letters : beyond) {
            FilledForOne x = new FilledForOne();
            due("office of " + letters, Office.tell(x, letters), -2000);
            due("nobody came of " + letters, x.count(0), 0);
        }
    }

    /** "Each is TO COME (0), in the LINE (1), SERVED (2), GONE (3)." */
    private static void statesOfAComer() {
        FilledForOne x = State.MIDDAY.make();
        int[] states = {2, 3, 1, 0, 1};
        for (int i = 0; i < states.length; i++) {
            due("state of COMER " + i, x.comer(i, 5), states[i]);
        }
    }

    private static void kettles() {
        kettleAtFirst();
        busyTill();
        hot();
    }

    /** "A KETTLE: a LEVEL (cups; 0 at first), a WARMTH (0 .. 10 degrees; 0), an AGE (0), BUSY till a MINUTE" */
    private static void kettleAtFirst() {
        FilledForOne x = Office.of("s7=2;c20010130;");
        x.go(10);
        for (int what = 0; what <= 3; what++) {
            due("KETTLE 0 before anybody, " + what, x.kettle(0, what), 0);
            due("KETTLE 1 before anybody, " + what, x.kettle(1, what), 0);
        }
        x.go(1);
        due("WARMTH as it is put on", x.kettle(0, 1), 10);
    }

    /** "BUSY till a MINUTE (0: it is free from then on)" */
    private static void busyTill() {
        FilledForOne x = Office.of("c10000130;");
        x.go(1);
        due("at 1, BUSY till 2", x.kettle(0, 3), 1);
        x.go(1);
        due("at 2, free", x.kettle(0, 3), 0);
        due("still in the LINE at 2", x.comer(0, 5), 1);
        due("SERVED in MINUTE 2", x.when(0), 2);
        FilledForOne other = Office.of("c20000130;c30004130;");
        due("a MINUTE before, nobody takes or fills", other.rest(2), 1);
        due("the other is SERVED at 5, too", other.when(1), 5);
    }

    /** "HOT: WARMTH is 8 or more." 7 cups cool by a degree a MINUTE from 5 on. */
    private static void hot() {
        due("9 degrees", Office.of("s3=1;c20000130;c20006130;").when(1), 6);
        due("8 degrees", Office.of("s3=1;c20000130;c20007130;").when(1), 7);
        due("7 degrees are put on again: till 8, 1 and 2", Office.of("s3=1;c20000130;c20008130;").when(1), 11);
    }

    private static void upTo() {
        fillerAndOne();
        full();
        line();
        best();
        told();
        wantsMoreThanHolds();
    }

    private static void dueUpTo(String office, int minute, int comer, int want) {
        FilledForOne x = Office.of(office);
        Office.goTo(x, minute);
        due("UP TO of COMER " + comer + " at " + minute + " in " + office, x.comer(comer, 7), want);
    }

    /** "WANTS at least, but HOLDS at most in any case: FILLER WANTS plus 1; ONE WANTS" */
    private static void fillerAndOne() {
        dueUpTo("s0=4;c00000230;", 0, 0, 3);
        dueUpTo("s0=3;c00000230;", 0, 0, 3);
        dueUpTo("s0=2;c00000230;", 0, 0, 2);
        dueUpTo("s0=3;c10000230;", 0, 0, 2);
        dueUpTo("s0=2;c10000230;", 0, 0, 2);
    }

    private static void full() {
        dueUpTo("s0=2;c20000130;", 0, 0, 2);
        dueUpTo("s0=11;c20000130;", 0, 0, 11);
    }

    /** "LINE WANTS of all who are in the LINE" */
    private static void line() {
        String three = "c30000130;c30000230;c30000330;c30020330;";
        dueUpTo("s1=9;s0=7;" + three, 1, 0, 6);
        dueUpTo("s1=9;s0=6;" + three, 1, 0, 6);
        dueUpTo("s1=9;s0=5;" + three, 1, 0, 5);
        dueUpTo("s1=9;s0=8;" + three, 1, 3, 6);
        // nobody in the LINE: WANTS at least
        dueUpTo(three, 0, 3, 3);
    }

    /** "and of those TO COME within FIGURE MINUTES (MINUTE now and FIGURE, it too)" */
    private static void best() {
        dueUpTo("c45000130;c10004230;", 0, 0, 3);
        dueUpTo("c45000130;c10005230;", 0, 0, 3);
        dueUpTo("c45000130;c10006230;", 0, 0, 1);
        dueUpTo("s1=9;c45000130;c10006230;", 1, 0, 3);
        dueUpTo("s1=9;c45000130;c10007230;", 1, 0, 1);
        dueUpTo("c40000130;c10000230;", 0, 0, 3);
        dueUpTo("c40000130;c10001230;", 0, 0, 1);
        dueUpTo("c49000130;c10009230;", 0, 0, 3);
        dueUpTo("c49000130;c10010230;", 0, 0, 1);
        dueUpTo("s0=4;c49000230;c10009230;", 0, 0, 4);
        dueUpTo("s0=3;c49000230;c10009230;", 0, 0, 3);
        // it fills in MINUTE 3 itself: those of 8 are in, those of 9 are not
        dueLevel("c45003130;c10008230;", 4, 3);
        dueLevel("c45003130;c10009230;", 4, 1);
    }

    private static void dueLevel(String office, int minute, int want) {
        FilledForOne x = Office.of(office);
        Office.goTo(x, minute);
        due("LEVEL at " + minute + " in " + office, x.kettle(0, 0), want);
    }

    /** "TOLD FIGURE", WANTS at least, HOLDS at most */
    private static void told() {
        int[][] figures = {{0, 2}, {1, 2}, {2, 2}, {3, 3}, {7, 7}, {8, 8}, {9, 8}};
        for (int[] f : figures) {
            dueUpTo("c6" + f[0] + "000230;", 0, 0, f[1]);
        }
        dueUpTo("s0=9;c69000230;", 0, 0, 9);
        dueUpTo("s0=10;c69000230;", 0, 0, 9);
    }

    private static void wantsMoreThanHolds() {
        for (int kind = 0; kind <= 6; kind++) {
            dueUpTo("s0=2;c" + kind + "9000330;", 0, 0, 2);
        }
        due("such a one is never SERVED", Office.of("s0=2;c10000330;").when(0), -9);
        due("with 3 HOLDS it is", Office.of("s0=3;c10000330;").when(0), 3);
    }

    private static void minuteGoesBy() {
        inTheLineByNumbers();
        goneByPatience();
        asManyCupsAsItWants();
        firstSuchKettle();
        noneThatItPutOnIsBusy();
        ifLevelIsLess();
        mixedWarmthIsCut();
        heatIsRoundedUp();
        agesOnlyFreeWithCups();
        ageComesToCools();
        warmthZeroAtLeast();
        waited();
    }

    /** "(a) those TO COME at t are in the LINE, behind it, by numbers" */
    private static void inTheLineByNumbers() {
        FilledForOne x = Office.of("s1=9;s0=2;c10003330;c10002330;c10003330;c10119330;");
        Office.goTo(x, 2);
        due("nobody before MINUTE 2 goes by", x.line(0), -9);
        Office.goTo(x, 3);
        due("the one of 2", x.line(0), 1);
        due("alone", x.line(1), -9);
        Office.goTo(x, 4);
        int[] want = {1, 0, 2, -9};
        for (int i = 0; i < want.length; i++) {
            due("line(" + i + ") at 4", x.line(i), want[i]);
        }
        Office.goTo(x, 119);
        due("TO COME at 119", x.comer(3, 5), 0);
        x.go(1);
        due("it came in MINUTE 119", x.comer(3, 5), 1);
    }

    /** "(b) those in the LINE who came more than PATIENCE MINUTES ago are GONE" */
    private static void goneByPatience() {
        int[] patiences = {0, 1, 5, 30};
        for (int p : patiences) {
            FilledForOne x = Office.of(String.format("s0=2;c100073%02d;", p));
            Office.goTo(x, 7 + p);
            due("PATIENCE " + p + ", a MINUTE before", x.comer(0, 5), p == 0 ? 0 : 1);
            x.go(1);
            due("PATIENCE " + p + ", that many MINUTES ago", x.comer(0, 5), 1);
            x.go(1);
            due("PATIENCE " + p + ", more MINUTES ago", x.comer(0, 5), 3);
        }
        due("SERVED with the last of its PATIENCE", Office.of("c10000102;").when(0), 2);
        due("GONE in the MINUTE of its tea", Office.of("c10000101;").when(0), -9);
        due("no PATIENCE, but HOT water there", Office.of("c20000130;c10005100;").when(1), 5);
    }

    /** "a free KETTLE that is HOT with as many cups as it WANTS": 2 cups are left at 3. */
    private static void asManyCupsAsItWants() {
        due("WANTS 1 of 2", Office.of("c64000230;c10003130;").when(1), 3);
        due("WANTS 2 of 2", Office.of("c64000230;c10003230;").when(1), 3);
        due("WANTS 3 of 2", Office.of("c64000230;c10003330;").when(1), 5);
        FilledForOne x = Office.of("c64000230;c10003230;c10050130;");
        Office.goTo(x, 4);
        due("the last cups are taken", x.kettle(0, 0), 0);
    }

    /** "(the first such)", of those that are HOT with enough, and of those that are free */
    private static void firstSuchKettle() {
        // at 3: KETTLE 0 with 3 cups, of which COMER 0 takes 1; KETTLE 1 with 5
        int[][] left = {{1, 1, 5}, {2, 0, 5}, {3, 2, 2}};
        for (int[] l : left) {
            FilledForOne x = Office.of("s7=2;c63000130;c65000" + l[0] + "30;c10100130;");
            Office.goTo(x, 4);
            due("KETTLE 0, COMER 1 WANTS " + l[0], x.kettle(0, 0), l[1]);
            due("KETTLE 1, COMER 1 WANTS " + l[0], x.kettle(1, 0), l[2]);
        }
        FilledForOne one = Office.of("s7=2;c10000130;");
        one.go(1);
        due("both are free: KETTLE 0", one.kettle(0, 3), 1);
        due("both are free: not KETTLE 1", one.kettle(1, 3), 0);
        FilledForOne two = Office.of("s7=2;c10000130;c10000230;c10000330;");
        two.go(1);
        due("KETTLE 0 is BUSY: KETTLE 1", two.kettle(1, 0), 2);
        due("both are BUSY: none", two.kettle(0, 0) + two.kettle(1, 0), 3);
    }

    /** "else, if there is a free KETTLE .. and none that it put on itself is BUSY" */
    private static void noneThatItPutOnIsBusy() {
        FilledForOne x = Office.of("s7=2;s0=2;c10000330;");
        for (int minute = 1; minute <= 5; minute++) {
            x.go(1);
            due("its own KETTLE at " + minute, x.kettle(0, 0), 2);
            due("the other one at " + minute, x.kettle(1, 0), 0);
        }
        // BUSY till 2, then of 10 degrees: each MINUTE from 2 to 30 once more
        due("put on again as soon as it is free", Office.of("s7=2;s0=2;c10000330;").rest(2), 30);
        due("another one puts the other on", Office.of("s7=2;s0=2;c10000330;c10000330;").rest(2), 60);
    }

    /** "(if LEVEL is less: .. that takes TAP MINUTES)": 4, 5 or 6 cold cups are left, it fills UP TO 5. */
    private static void ifLevelIsLess() {
        int[][] boils = {{5, 5, 111}, {6, 5, 102}, {7, 6, 103}};
        for (int[] b : boils) {
            FilledForOne x = Office.of("s1=9;s3=1;c6" + b[0] + "000130;c65100130;");
            Office.goTo(x, 101);
            due("LEVEL of " + (b[0] - 1) + " cups", x.kettle(0, 0), b[1]);
            due("SERVED from " + (b[0] - 1) + " cups", x.when(1), b[2]);
        }
    }

    /** "WARMTH becomes LEVEL times WARMTH by the new LEVEL, cut" shows in how long the filled one takes. */
    private static void mixedWarmthIsCut() {
        // HEAT 20, no walk, COOLS 9, all by FIGURES: 1 of 3 cups is left, of 10 degrees
        // 9 cups: 10 by 9 is 1, so 9 times 9 times 20 by 100 is 16.2
        due("10 by 9", Office.of("s0=11;s1=0;s2=20;s3=9;c63000230;c69007330;").when(1), 24);
        // 5 cups: 2 exactly, so 5 times 8 times 20 by 100 is 8
        due("10 by 5", Office.of("s0=11;s1=0;s2=20;s3=9;c63000230;c65007330;").when(1), 15);
        // 6 cups: 1.6 is 1, so 6 times 9 times 20 by 100 is 10.8 (by 2 degrees it would be 9.6)
        due("10 by 6", Office.of("s0=11;s1=0;s2=20;s3=9;c63000230;c66007330;").when(1), 18);
    }

    /** "LEVEL times (10 less WARMTH) times HEAT by 100, rounded up, 1 at least" */
    private static void heatIsRoundedUp() {
        due("0.9 MINUTES", Office.of("s1=0;s2=9;c10000130;").when(0), 1);
        due("1 MINUTE", Office.of("s1=0;s2=10;c10000130;").when(0), 1);
        due("1.1 MINUTES", Office.of("s1=0;s2=11;c10000130;").when(0), 2);
        due("2 MINUTES", Office.of("s1=0;s2=20;c10000130;").when(0), 2);
        due("0.1 MINUTES", Office.of("s1=0;s2=1;c10000130;").when(0), 1);
        // 11 cups, free at 16, of 4, 3 and 2 degrees at 22, 23 and 24: 8.58, 10.01 and 11.44 MINUTES
        int[][] colder = {{22, 31}, {23, 34}, {24, 36}};
        for (int[] c : colder) {
            FilledForOne x = Office.of("s0=11;s2=13;s3=1;c20000100;c200" + c[0] + "130;");
            due("11 cups put on again at " + c[0], x.when(1), c[1]);
        }
        oneMinuteAtLeast();
    }

    private static void oneMinuteAtLeast() {
        FilledForOne boiling = Office.of("s0=2;c10000330;");
        Office.goTo(boiling, 2);
        due("free at 2", boiling.kettle(0, 3), 0);
        boiling.set(1, 9);
        boiling.set(2, 20);
        boiling.go(1);
        due("boiling water, no walk: 1 at least, till 3", boiling.kettle(0, 3), 0);
        due("it was put on again, its AGE is 0", boiling.kettle(0, 2), 0);
    }

    /** "(d) each free KETTLE that has cups has an AGE of 1 more" */
    private static void agesOnlyFreeWithCups() {
        FilledForOne x = Office.of("c20000130;c10100130;");
        Office.goTo(x, 5);
        due("BUSY till 5: no AGE", x.kettle(0, 2), 0);
        x.go(1);
        due("free in MINUTE 5: AGE 1", x.kettle(0, 2), 1);
        FilledForOne empty = Office.of("c10000130;c10100130;");
        Office.goTo(empty, 20);
        due("emptied: no AGE", empty.kettle(0, 2), 0);
        due("emptied: as warm as it was", empty.kettle(0, 1), 10);
        FilledForOne cup = Office.of("c00000130;c10100130;");
        Office.goTo(cup, 3);
        due("one cup is enough for an AGE", cup.kettle(0, 2), 1);
        FilledForOne put = Office.of("c64000230;c12004330;c10100130;");
        Office.goTo(put, 4);
        due("AGE before it is put on", put.kettle(0, 2), 1);
        Office.goTo(put, 5);
        due("AGE as it is put on", put.kettle(0, 2), 0);
        due("WARMTH as it is put on", put.kettle(0, 1), 10);
    }

    /** "as that is COOLS or more, WARMTH is 1 less .., AGE 0" */
    private static void ageComesToCools() {
        int[][] looks = {{7, 10, 2}, {8, 9, 0}, {9, 9, 1}, {10, 9, 2}, {11, 8, 0}};
        FilledForOne x = Office.of("c20000130;c10100130;");
        for (int[] l : looks) {
            Office.goTo(x, l[0]);
            due("WARMTH at " + l[0], x.kettle(0, 1), l[1]);
            due("AGE at " + l[0], x.kettle(0, 2), l[2]);
        }
        Office.goTo(x, 13);
        due("AGE at 13", x.kettle(0, 2), 2);
        x.set(3, 1);
        x.go(1);
        due("more than COOLS: a degree, no more", x.kettle(0, 1), 7);
        due("more than COOLS: AGE 0", x.kettle(0, 2), 0);
    }

    /** "WARMTH is 1 less (0 at least)" */
    private static void warmthZeroAtLeast() {
        int[][] looks = {{14, 1}, {15, 0}, {16, 0}, {90, 0}};
        FilledForOne x = Office.of("s3=1;c20000130;c10100130;");
        for (int[] l : looks) {
            Office.goTo(x, l[0]);
            due("WARMTH at " + l[0], x.kettle(0, 1), l[1]);
            due("AGE at " + l[0], x.kettle(0, 2), 0);
        }
        due("7 cold cups are put on without the walk: 2.8 MINUTES", x.when(1), 103);
    }

    /** "WAITED: of one SERVED at t: t less its MINUTE; of one GONE: PATIENCE." */
    private static void waited() {
        FilledForOne x = Office.of("c20000130;c10005130;c10005230;");
        Office.goTo(x, 6);
        due("SERVED at 5, came at 0", x.comer(0, 6), 5);
        due("SERVED as it came", x.comer(1, 6), 0);
        due("all WAITED", x.count(6), 5);
        FilledForOne gone = Office.of("s0=2;c10000300;c10000330;");
        Office.goTo(gone, 1);
        due("in the LINE: none yet", gone.comer(1, 6), 0);
        Office.goTo(gone, 32);
        due("GONE with PATIENCE 0", gone.comer(0, 6), 0);
        due("GONE with PATIENCE 30", gone.comer(1, 6), 30);
    }

    /** "The DAY is OVER at MINUTE 180, or as nobody is TO COME, nobody in the LINE, all KETTLES free." */
    private static void dayOver() {
        due("nobody at all", new FilledForOne().count(5), 1);
        due("one TO COME", Office.of("c10119130;").count(5), 0);
        FilledForOne line = Office.of("s1=0;c10000130;");
        line.go(1);
        due("a free KETTLE, nobody TO COME", line.kettle(0, 3) + line.comer(0, 5), 1);
        due("but one in the LINE", line.count(5), 0);
        line.go(1);
        due("SERVED", line.count(5), 1);
        FilledForOne busy = Office.of("s1=9;c10000100;");
        Office.goTo(busy, 9);
        due("all GONE, BUSY for a MINUTE", busy.kettle(0, 3), 1);
        due("not OVER", busy.count(5), 0);
        due("go", busy.go(60), 10);
        due("free, OVER", busy.count(5), 1);
        FilledForOne second = Office.of("s7=2;s1=9;c10000100;c20000100;");
        Office.goTo(second, 10);
        due("KETTLE 0 is free", second.kettle(0, 3), 0);
        due("KETTLE 1 is BUSY till 13", second.kettle(1, 3), 3);
        due("not OVER", second.count(5), 0);
        due("go", second.go(60), 13);
        due("OVER", second.count(5), 1);
        lastMinutes();
    }

    /** 3 cups till 134, 3 till 149, then 11 cups, the longest there is, from 149 till 180. */
    private static void lastMinutes() {
        FilledForOne x = Office.of("s0=11;s1=9;s2=20;c10119300;c10119320;c10119329;c10119330;c20119330;");
        int[] when = {-9, 134, -9, 149, -9};
        for (int i = 0; i < when.length; i++) {
            due("when(" + i + ")", x.when(i), when[i]);
        }
        Office.goTo(x, 151);
        due("nobody is there", x.count(2), 0);
        Office.goTo(x, 179);
        due("MINUTE 179", x.count(1), 179);
        due("not OVER at 179", x.count(5), 0);
        due("go(60) from 179", x.go(60), 180);
        due("OVER at 180", x.count(5), 1);
        due("go(1) at 180", x.go(1), -3);
        due("nobody comes at 180", Office.tell(x, "c00119130;"), -2000);
        due("COST: 104 WAITED, 11 cups, 3 GONE", x.rest(4), 153);
    }
}
