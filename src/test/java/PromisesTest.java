/** The promises one by one, with answers worked out by hand from the document. */
public final class PromisesTest {
    private static final String ONE_FOR_TEA = "c00000105;";
    /** Two wait at minute 0 (WANTS 2 and 3), one comes at 4 (WANTS 1). */
    private static final String THREE = "c00000230;c00000330;c00004130;";

    private FilledForOne x;

    private PromisesTest(String office) {
        x = new FilledForOne();
        if (!office.isEmpty()) {
            tell(office);
        }
    }

    public static void main(String[] args) {
        newObject();
        feed();
        officeFaultsOfOne();
        officeFaultsOfTwo();
        officeComes();
        officeByTheDay();
        comer();
        upTo();
        kind();
        kettle();
        kettlesTwo();
        set();
        go();
        gone();
        anew();
        line();
        rest();
        when();
        best();
        rounds();
        marks();
        second();
        urn();
        least();
        ferry();
        times();
        better();
        follow();
        rowAndJudge();
        fits();
        seeds();
        imageAndRestore();
        count();
        Check.end();
    }

    private static PromisesTest with(String office) {
        return new PromisesTest(office);
    }

    private int tell(String office) {
        for (int i = 0; i < office.length(); i++) {
            x.feed(office.charAt(i));
        }
        return x.office();
    }

    private static void dueOffice(String letters, int want) {
        Check.due("office of \"" + letters + "\"", with("").tell(letters), want);
    }

    private void dueRefusals(String call, int ones, int twos, int threes, int fours, int sixes) {
        int[] want = {ones, twos, threes, fours, 0, sixes};
        for (int i = 0; i < want.length; i++) {
            Check.due(call + " counts refusals, " + (11 + i), x.count(11 + i), want[i]);
        }
    }

    private static void newObject() {
        FilledForOne x = with("").x;
        int[] counts = {0, 0, 0, 0, 0, 1, 0, 0, 0};
        for (int i = 0; i < counts.length; i++) {
            Check.due("new: count " + i, x.count(i), counts[i]);
        }
        int[] settings = {8, 1, 4, 3, 1, 2, 3, 1};
        for (int i = 0; i < settings.length; i++) {
            Check.due("new: setting " + i, x.count(20 + i), settings[i]);
        }
        for (int i = 0; i < 4; i++) {
            Check.due("new: kettle " + i, x.kettle(0, i), 0);
        }
        Check.due("new: no second kettle", x.kettle(1, 0), -1);
    }

    private static void feed() {
        PromisesTest t = with("");
        Check.due("feed(-1)", t.x.feed(-1), -4);
        Check.due("feed(256)", t.x.feed(256), -6);
        for (int i = 1; i <= 96; i++) {
            Check.due("feed " + i, t.x.feed(i % 2 == 0 ? 0 : 255), i);
        }
        Check.due("feed 97", t.x.feed(97), -6);
        Check.due("feed(-1) with no room", t.x.feed(-1), -4);
        Check.due("letters", t.x.count(7), 96);
        t.dueRefusals("feed", 0, 0, 0, 2, 2);
    }

    private static void officeFaultsOfOne() {
        dueOffice("", -1000);
        dueOffice("x", -1000);
        dueOffice("S0=5;", -1000);
        dueOffice(";", -1000);
        dueOffice("s", -1001);
        dueOffice("s0", -1002);
        dueOffice("s0:5;", -1002);
        dueOffice("s0=", -1003);
        dueOffice("s0=;", -1003);
        dueOffice("s0=5", -1004);
        dueOffice("s0=55", -1005);
        dueOffice("s0=005;", -1005);
        dueOffice("s0=5;x", -1005);
        dueOffice("s0=5;;", -1005);
        dueOffice("s0=5;c", -1006);
        dueOffice("c00000105", -1009);
        dueOffice("c000001055;", -1009);
        dueOffice("c0000a105;", -1005);
        dueOffice("c0000/105;", -1005);
        dueOffice("c0000:105;", -1005);
        dueOffice("k", -1001);
        dueOffice("k0;", -1002);
        dueOffice("k000", -1004);
        dueOffice("k0000;", -1004);
        // a statement out of range does not matter while letters behind it are wrong
        dueOffice("s9=1;x", -1005);
    }

    private static void officeFaultsOfTwo() {
        String[] wrong = {"s8=1;", "s9=1;", "s0=1;", "s0=12;", "s1=10;", "s2=0;", "s2=21;", "s3=0;", "s3=10;",
            "s4=10;", "s5=10;", "s6=12;", "s7=0;", "s7=3;", "c70000105;", "c00120105;", "c00999105;",
            "c00000005;", "c00000405;", "c00000131;", "k000;"};
        for (String s : wrong) {
            dueOffice(s, -2000);
            dueOffice("s0=5;" + s, -2005);
        }
        dueOffice("c00000105;k100;", -2010);
        dueOffice("c00000105;k070;", -2010);
        StringBuilder eight = new StringBuilder();
        for (int i = 0; i < 8; i++) {
            eight.append("c00000105;");
        }
        dueOffice(eight.toString(), 8);
        dueOffice(eight + "s7=2;", 9);
        dueOffice(eight + "c00000105;", -2080);
    }

    private static void officeComes() {
        String[] right = {"s0=2;", "s0=02;", "s0=11;", "s1=0;", "s1=9;", "s2=1;", "s2=20;", "s3=1;", "s3=9;",
            "s4=0;", "s4=9;", "s5=0;", "s5=9;", "s6=0;", "s6=11;", "s7=1;", "s7=2;", "c69119330;", "c00000100;"};
        for (String s : right) {
            dueOffice(s, 1);
        }
        PromisesTest t = with("");
        Check.due("office", t.tell("s7=2;c53117228;k069;s6=07;"), 4);
        Check.due("no letters more", t.x.count(7), 0);
        Check.due("KETTLES", t.x.count(27), 2);
        Check.due("MARK", t.x.count(26), 7);
        int[] comer = {6, 9, 117, 2, 28, 0, 0, 8};
        for (int i = 0; i < comer.length; i++) {
            Check.due("comer told, " + i, t.x.comer(0, i), comer[i]);
        }
        Check.due("office with a fault", t.tell("s0=5;c00000105;k200;"), -2015);
        Check.due("nothing came", t.x.count(20), 8);
        Check.due("nobody came", t.x.count(0), 1);
        Check.due("letters are gone with a fault too", t.x.count(7), 0);
        Check.due("office with a fault", t.tell("s0=5;c"), -1006);
        Check.due("nothing came", t.x.count(20), 8);
        Check.due("letters are gone with a fault too", t.x.count(7), 0);
        t.dueRefusals("office", 0, 0, 0, 0, 0);
    }

    private static void officeByTheDay() {
        PromisesTest t = with("c20000130;");
        Check.due("go", t.x.go(2), 2);
        Check.due("a minute gone by", t.tell("c00001105;"), -2000);
        Check.due("the minute now", t.tell("c00002105;"), 1);
        Check.due("KETTLES too late", t.tell("s7=2;"), -2000);
        Check.due("KETTLES as they are", t.tell("s7=1;"), 1);
        Check.due("HOLDS below the level", t.tell("s4=3;s0=7;"), -2005);
        Check.due("HOLDS as the level", t.tell("s0=8;"), 1);
        Check.due("all or nothing", t.x.count(24), 1);
    }

    private static void comer() {
        PromisesTest t = with("c42003317;" + ONE_FOR_TEA);
        int[] want = {4, 2, 3, 3, 17, 0, 0, 3};
        for (int i = 0; i < want.length; i++) {
            Check.due("comer(0, " + i + ")", t.x.comer(0, i), want[i]);
        }
        t.x.go(1);
        Check.due("in the line", t.x.comer(1, 5), 1);
        Check.due("nothing waited yet", t.x.comer(1, 6), 0);
        t.x.go(2);
        Check.due("served", t.x.comer(1, 5), 2);
        Check.due("waited", t.x.comer(1, 6), 2);
        Check.due("comer(-1, 0)", t.x.comer(-1, 0), -1);
        Check.due("comer(2, 9)", t.x.comer(2, 9), -1);
        Check.due("comer(0, 8)", t.x.comer(0, 8), -2);
        Check.due("comer(0, -1)", t.x.comer(0, -1), -2);
        t.dueRefusals("comer", 2, 2, 0, 0, 0);
    }

    private void dueUpTo(int comer, int kind, int figure, int want) {
        x.kind(comer, kind, figure);
        Check.due("up to, comer " + comer + ", kind " + kind + ", figure " + figure, x.comer(comer, 7), want);
    }

    private static void upTo() {
        PromisesTest t = with(THREE);
        t.x.go(1);
        t.dueUpTo(0, 0, 0, 3);
        t.dueUpTo(0, 1, 0, 2);
        t.dueUpTo(0, 2, 0, 8);
        t.dueUpTo(0, 3, 9, 5);
        t.dueUpTo(0, 4, 2, 5);
        t.dueUpTo(0, 4, 3, 6);
        t.dueUpTo(0, 5, 0, 3);
        t.dueUpTo(0, 6, 0, 2);
        t.dueUpTo(0, 6, 7, 7);
        t.dueUpTo(0, 6, 9, 8);
        t.dueUpTo(2, 0, 0, 2);
        t.dueUpTo(2, 3, 0, 5);
        t.x.set(6, 1);
        t.dueUpTo(0, 5, 0, 2);
        t.x.set(6, 11);
        t.dueUpTo(0, 5, 0, 8);
        t.x.anew();
        t.dueUpTo(2, 3, 0, 1);
        t.dueUpTo(2, 4, 0, 5);
        t.dueUpTo(2, 4, 4, 6);
        t.x.set(0, 3);
        t.dueUpTo(1, 0, 0, 3);
        t.x.set(0, 2);
        t.dueUpTo(1, 1, 0, 2);
    }

    private static void kind() {
        PromisesTest t = with("c42003317;");
        Check.due("kind", t.x.kind(0, 6, 9), 42);
        Check.due("kind", t.x.kind(0, 0, 0), 69);
        Check.due("KIND now", t.x.comer(0, 0), 0);
        Check.due("FIGURE now", t.x.comer(0, 1), 0);
        Check.due("kind(-1, 9, -1)", t.x.kind(-1, 9, -1), -1);
        Check.due("kind(1, 9, 10)", t.x.kind(1, 9, 10), -1);
        Check.due("kind(0, 7, -1)", t.x.kind(0, 7, -1), -2);
        Check.due("kind(0, -1, 10)", t.x.kind(0, -1, 10), -2);
        Check.due("kind(0, 3, -1)", t.x.kind(0, 3, -1), -4);
        Check.due("kind(0, 3, 10)", t.x.kind(0, 3, 10), -6);
        Check.due("nothing changes", t.x.kind(0, 1, 1), 0);
        t.dueRefusals("kind", 2, 2, 0, 1, 1);
    }

    private void dueKettle(String at, int level, int warmth, int age, int busy) {
        int[] want = {level, warmth, age, busy};
        for (int i = 0; i < want.length; i++) {
            Check.due("kettle " + at + ", " + i, x.kettle(0, i), want[i]);
        }
    }

    private static void kettle() {
        PromisesTest t = with("c20000105;c10100105;");
        t.x.go(1);
        t.dueKettle("8 cups put on with the walk, till 5", 8, 10, 0, 4);
        t.x.go(4);
        t.dueKettle("free again", 8, 10, 0, 0);
        t.x.go(1);
        t.dueKettle("a cup less", 7, 10, 1, 0);
        t.x.go(2);
        t.dueKettle("a degree less", 7, 9, 0, 0);
        t.x.go(60);
        t.x.go(32);
        t.dueKettle("cold, at 100", 7, 0, 2, 0);
        t.x.go(1);
        t.dueKettle("7 cups put on without the walk, till 103", 7, 10, 0, 2);
        t.x.go(3);
        Check.due("the day is over", t.x.count(5), 1);
        Check.due("left", t.x.kettle(0, 0), 6);
        Check.due("kettle(1, 9)", t.x.kettle(1, 9), -1);
        Check.due("kettle(-1, 0)", t.x.kettle(-1, 0), -1);
        Check.due("kettle(0, 4)", t.x.kettle(0, 4), -2);
        Check.due("kettle(0, -1)", t.x.kettle(0, -1), -2);
        t.dueRefusals("kettle", 2, 2, 0, 0, 0);

        Check.due("8 degrees are hot", with("c20000105;c20013105;").x.when(1), 13);
        PromisesTest mixed = with("c20000105;c20014105;");
        Check.due("7 are not", mixed.x.when(1), 17);
        mixed.x.go(15);
        mixed.dueKettle("7 cups of 7 degrees filled up: 6 degrees", 8, 10, 0, 2);

        PromisesTest boiling = with("s0=2;c10000330;");
        boiling.x.go(3);
        boiling.dueKettle("boiling water put on again takes a minute", 2, 10, 0, 0);
        boiling.x.go(1);
        boiling.dueKettle("boiling water put on again takes a minute", 2, 10, 0, 0);
        Check.due("minute by minute", boiling.x.rest(2), 27);
    }

    private static void kettlesTwo() {
        PromisesTest t = with("s7=2;c10000130;c10000130;");
        t.x.go(1);
        Check.due("each has its own", t.x.kettle(1, 3), 1);
        Check.due("when 0", t.x.when(0), 2);
        Check.due("when 1", t.x.when(1), 2);
        Check.due("kettle(2, 0)", t.x.kettle(2, 0), -1);
        PromisesTest alone = with("s7=2;c10000130;");
        Check.due("one that waits for its own puts no other on", alone.x.rest(2), 1);
        Check.due("cups left in both", with("s7=2;c00000130;c00000130;").x.rest(3), 2);
        PromisesTest hot = with("s7=2;c20000130;c20000130;c10008130;");
        hot.x.go(9);
        Check.due("the first kettle that will do", hot.x.kettle(0, 0), 5);
        Check.due("the other one has stood", hot.x.kettle(1, 0), 8);
        hot.x.anew();
        Check.due("s7", hot.x.set(7, 1), 2);
        Check.due("no such kettle now", hot.x.kettle(1, 0), -1);
        Check.due("s7", hot.x.set(7, 2), 1);
        Check.due("empty", hot.x.kettle(1, 0), 0);
    }

    private static void set() {
        PromisesTest t = with("c20000105;");
        int[] least = {2, 0, 1, 1, 0, 0, 0, 1};
        int[] greatest = {11, 9, 20, 9, 9, 9, 11, 2};
        int[] first = {8, 1, 4, 3, 1, 2, 3, 1};
        for (int i = 0; i < first.length; i++) {
            Check.due("set below", t.x.set(i, least[i] - 1), -4);
            Check.due("set above", t.x.set(i, greatest[i] + 1), -6);
            Check.due("set least", t.x.set(i, least[i]), first[i]);
            Check.due("set greatest", t.x.set(i, greatest[i]), least[i]);
            Check.due("set back", t.x.set(i, first[i]), greatest[i]);
            Check.due("count of it", t.x.count(20 + i), first[i]);
        }
        Check.due("set(8, -1)", t.x.set(8, -1), -1);
        Check.due("set(-1, 99)", t.x.set(-1, 99), -1);
        t.dueRefusals("set", 2, 0, 0, 8, 8);
        t.x.go(1);
        Check.due("HOLDS below the level", t.x.set(0, 7), -3);
        Check.due("HOLDS as the level", t.x.set(0, 8), 8);
        Check.due("HOLDS below the least", t.x.set(0, 1), -4);
        Check.due("KETTLES too late", t.x.set(7, 2), -3);
        Check.due("KETTLES as they are", t.x.set(7, 1), 1);
        Check.due("KETTLES above", t.x.set(7, 3), -6);
        t.dueRefusals("set", 2, 0, 2, 9, 9);
        t.x.anew();
        Check.due("KETTLES at minute 0", t.x.set(7, 2), 1);
        Check.due("HOLDS of an empty kettle", t.x.set(0, 2), 8);
        PromisesTest cools = with("c20000105;c10100105;");
        cools.x.go(7);
        cools.x.set(3, 1);
        cools.x.go(1);
        cools.dueKettle("COOLS below the age", 7, 9, 0, 0);
    }

    private static void go() {
        PromisesTest t = with("");
        Check.due("go(0) of a day that is over", t.x.go(0), -4);
        Check.due("go(61) of a day that is over", t.x.go(61), -6);
        Check.due("go(1) of a day that is over", t.x.go(1), -3);
        t.dueRefusals("go", 0, 0, 1, 1, 1);
        t.tell(ONE_FOR_TEA);
        Check.due("go(0)", t.x.go(0), -4);
        Check.due("go(61)", t.x.go(61), -6);
        Check.due("go(2)", t.x.go(2), 2);
        Check.due("not yet over", t.x.count(5), 0);
        Check.due("go(60)", t.x.go(60), 3);
        Check.due("over", t.x.count(5), 1);
        Check.due("go(1)", t.x.go(1), -3);
        t.tell("c00119100;");
        Check.due("a new comer, a new day", t.x.count(5), 0);
        Check.due("go(60)", t.x.go(60), 63);
        Check.due("go(60)", t.x.go(60), 121);
        Check.due("the walk counts", with("s1=9;" + ONE_FOR_TEA).x.rest(2), 1);
        Check.due("heat rounded up", with("s1=0;s2=11;c10000130;").x.when(0), 2);
        Check.due("heat as it is", with("s1=0;s2=10;c10000130;").x.when(0), 1);
    }

    private static void gone() {
        PromisesTest t = with("s1=9;c00000102;");
        t.x.go(3);
        Check.due("still there", t.x.comer(0, 5), 1);
        t.x.go(1);
        Check.due("gone", t.x.comer(0, 5), 3);
        Check.due("its patience is what it waited", t.x.comer(0, 6), 2);
        Check.due("count of the gone", t.x.count(4), 1);
        Check.due("all waited", t.x.count(6), 2);
        Check.due("not over while the kettle is on", t.x.count(5), 0);
        Check.due("go(60)", t.x.go(60), 10);
        Check.due("cost", t.x.rest(4), 15);
        Check.due("served with the last of its patience", with("c00000102;").x.when(0), 2);
        Check.due("gone before", with("c00000101;").x.when(0), -9);
        Check.due("no patience, but hot water", with("c20000130;c10006100;").x.when(1), 6);
    }

    private static void anew() {
        PromisesTest t = with(THREE + "s7=2;");
        Check.due("anew at 0", t.x.anew(), 0);
        t.x.go(6);
        Check.due("anew", t.x.anew(), 5);
        Check.due("MINUTE", t.x.count(1), 0);
        Check.due("line", t.x.count(2), 0);
        Check.due("served", t.x.count(3), 0);
        Check.due("waited", t.x.count(6), 0);
        Check.due("comers", t.x.count(0), 3);
        Check.due("comer 0", t.x.comer(0, 5), 0);
        Check.due("the second kettle", t.x.kettle(1, 0), 0);
        t.dueKettle("anew", 0, 0, 0, 0);
        Check.due("KETTLES stay", t.x.count(27), 2);
        Check.due("the day goes as before", t.x.go(6), 5);
    }

    private static void line() {
        PromisesTest t = with("s1=9;c10002130;c10001130;c10002130;c10003100;");
        Check.due("nobody", t.x.line(0), -9);
        t.x.go(4);
        int[] want = {1, 0, 2, 3, -9};
        for (int i = 0; i < want.length; i++) {
            Check.due("line " + i, t.x.line(i), want[i]);
        }
        t.x.go(1);
        Check.due("the last one is gone", t.x.line(3), -9);
        t.x.go(7);
        Check.due("the first one is served, the next moves up", t.x.line(0), 0);
        Check.due("line(8)", t.x.line(8), -9);
        Check.due("line(-1)", t.x.line(-1), -4);
        t.dueRefusals("line", 0, 0, 0, 1, 0);
    }

    private void dueRest(int waited, int gone, int puts, int left, int cost) {
        int[] want = {waited, gone, puts, left, cost};
        for (int i = 0; i < want.length; i++) {
            Check.due("rest(" + i + ")", x.rest(i), want[i]);
        }
    }

    private static void rest() {
        PromisesTest t = with("c20000105;c10100105;");
        t.dueRest(8, 0, 2, 6, 20);
        t.x.go(50);
        t.dueRest(8, 0, 1, 6, 20);
        t.x.go(60);
        t.dueRest(8, 0, 0, 6, 20);
        Check.due("in mind only", t.x.count(1), 104);
        Check.due("rest(5)", t.x.rest(5), -2);
        Check.due("rest(-1)", t.x.rest(-1), -2);
        t.dueRefusals("rest", 0, 2, 0, 0, 0);
        with("s1=9;s4=7;s5=5;c00000102;").dueRest(2, 1, 1, 2, 33);
    }

    private static void when() {
        PromisesTest t = with("c00000105;c00040100;");
        Check.due("when 0", t.x.when(0), 2);
        Check.due("when 1", t.x.when(1), -9);
        t.x.go(10);
        Check.due("it was", t.x.when(0), 2);
        Check.due("MINUTE", t.x.count(1), 10);
        Check.due("when(2)", t.x.when(2), -1);
        Check.due("when(-1)", t.x.when(-1), -1);
        t.dueRefusals("when", 2, 0, 0, 0, 0);
    }

    private static void best() {
        PromisesTest t = with("c20000105;");
        Check.due("for itself", t.x.best(0, 0), 0);
        Check.due("for all", t.x.best(0, 1), 1);
        Check.due("the figure as it is", with("c20000105;k069;").x.best(0, 1), 1);
        t.x.go(3);
        Check.due("from a day anew", t.x.best(0, 0), 0);
        Check.due("MINUTE", t.x.count(1), 3);
        Check.due("KIND", t.x.comer(0, 0), 2);
        Check.due("one not served counts 99", with("s2=20;c00000103;").x.best(0, 0), 1);
        Check.due("best(1, 2)", t.x.best(1, 2), -1);
        Check.due("best(-1, 0)", t.x.best(-1, 0), -1);
        Check.due("best(0, 2)", t.x.best(0, 2), -2);
        Check.due("best(0, -1)", t.x.best(0, -1), -2);
        t.dueRefusals("best", 2, 2, 0, 0, 0);
    }

    private void dueRounds(int rounds, int kinds, int cost, int loses) {
        int[] want = {rounds, kinds, cost, loses};
        for (int i = 0; i < want.length; i++) {
            Check.due("rounds(" + i + ")", x.rounds(i), want[i]);
        }
    }

    private static void rounds() {
        with("").dueRounds(1, 0, 0, 0);
        with("s2=20;c10000103;").dueRounds(1, 1, 3, 0);
        PromisesTest t = with("s2=20;c50060101;c50000103;");
        // comer 0 is gone at 62 whatever it fills, as a FILLER 2 cups; ONE would leave 1 cup
        t.dueRounds(2, 10, 17, 2);
        // two who give way to each other for ever: the program and Model agree
        with("s7=2;s2=6;s0=8;c20018317;c28019200;c21018221;c50003328;").dueRounds(20, 1100, 21, 3);
        Check.due("KIND as it was", t.x.comer(0, 0), 5);
        Check.due("rounds(4)", t.x.rounds(4), 1000000002);
        Check.due("rounds(-1)", t.x.rounds(-1), 1000000002);
        t.dueRefusals("rounds", 0, 2, 0, 0, 0);
    }

    private static void marks() {
        PromisesTest t = with("c50000130;c50003130;");
        Check.due("the mark", t.x.marks(0), 2);
        Check.due("its cost", t.x.marks(1), 2);
        Check.due("MARK as it was", t.x.count(26), 3);
        Check.due("of several the least", with("c10000130;").x.marks(0), 0);
        Check.due("marks(2)", t.x.marks(2), -2);
        Check.due("marks(-1)", t.x.marks(-1), -2);
        t.dueRefusals("marks", 0, 2, 0, 0, 0);
    }

    private static void second() {
        PromisesTest t = with("c10000130;c10000130;");
        Check.due("second", t.x.second(), 2);
        t.tell("s7=2;");
        Check.due("second, with two", t.x.second(), 2);
        Check.due("KETTLES as they were", t.x.count(27), 2);
        Check.due("a second one loses", with("c20000130;c20000130;").x.second(), -16);
    }

    private static void urn() {
        PromisesTest t = with("c10000130;c10060130;");
        Check.due("60 minutes, an hour at 3 for 4", t.x.urn(3), 1);
        Check.due("60 minutes, an hour at 4 for 4", t.x.urn(4), 0);
        PromisesTest longer = with("c10061130;c10000130;");
        Check.due("61 minutes, two hours at 1", longer.x.urn(1), 1);
        Check.due("61 minutes, two hours at 2", longer.x.urn(2), 0);
        PromisesTest one = with("c10119130;");
        Check.due("one comer, an hour at 1", one.x.urn(1), 1);
        Check.due("one comer, an hour at 2", one.x.urn(2), 0);
        PromisesTest across = with("c10059130;c10062130;");
        Check.due("an hour across the hour at 3", across.x.urn(3), 1);
        Check.due("urn(-1)", t.x.urn(-1), -4);
        Check.due("urn(100)", t.x.urn(100), -6);
        Check.due("urn(99)", t.x.urn(99), 0);
        Check.due("urn(0)", t.x.urn(0), 1);
        t.dueRefusals("urn", 0, 0, 0, 1, 1);
    }

    private static void dueLeast(String office, int cost, int rows) {
        FilledForOne x = with(office).x;
        Check.due("least of " + office, x.least(0), cost);
        Check.due("rows of " + office, x.least(1), rows);
    }

    private static void least() {
        dueLeast("s0=8;", 0, 0);
        dueLeast("c00000100;", 5, 1);
        dueLeast("c00000130;c00003130;", 10, 2);
        dueLeast("s4=2;c00000130;c00003130;", 14, 3);
        dueLeast("s4=0;c00000130;c00119130;", 3, 2);
        dueLeast("c00000330;c00000330;c00000330;", 21, 6);
        dueLeast("c00060130;c00000130;c00060130;", 12, 5);
        // the second boil begins as the first has ended
        dueLeast("s0=2;s1=9;c00000230;c00001230;", 35, 3);
        PromisesTest t = with("s0=2;c00000330;");
        Check.due("least(0)", t.x.least(0), -3);
        Check.due("least(2)", t.x.least(2), -2);
        Check.due("least(-1)", t.x.least(-1), -2);
        t.dueRefusals("least", 0, 2, 1, 0, 0);
    }

    private static void ferry() {
        PromisesTest t = with("c00010130;c00000130;c00003130;");
        Check.due("ferry(1, 60)", t.x.ferry(1, 60), 0);
        Check.due("ferry(2, 5)", t.x.ferry(2, 5), 8);
        Check.due("ferry(3, 5)", t.x.ferry(3, 5), 17);
        Check.due("ferry(4, 5)", t.x.ferry(4, 5), 32);
        Check.due("ferry(8, 0)", t.x.ferry(8, 0), 17);
        Check.due("ferry(8, 60)", t.x.ferry(8, 60), 197);
        Check.due("nobody for the ferry", with("").x.ferry(2, 5), 0);
        Check.due("ferry(0, 61)", t.x.ferry(0, 61), -4);
        Check.due("ferry(9, -1)", t.x.ferry(9, -1), -4);
        Check.due("ferry(9, 0)", t.x.ferry(9, 0), -6);
        Check.due("ferry(1, 61)", t.x.ferry(1, 61), -6);
        t.dueRefusals("ferry", 0, 0, 0, 2, 2);
    }

    private static void times() {
        PromisesTest t = with("c00010130;c00000130;c00003130;");
        Check.due("times(1)", t.x.times(1), 0);
        Check.due("times(5)", t.x.times(5), 2);
        Check.due("times(60)", t.x.times(60), 107);
        Check.due("nobody at times", with("").x.times(5), 0);
        Check.due("times(0)", t.x.times(0), -4);
        Check.due("times(61)", t.x.times(61), -6);
        t.dueRefusals("times", 0, 0, 0, 1, 1);
    }

    private static void better() {
        PromisesTest t = with("c00010130;c00000130;c00003130;");
        Check.due("better(5)", t.x.better(5), 1);
        Check.due("better(1)", t.x.better(1), -9);
        Check.due("better(60)", t.x.better(60), 1);
        Check.due("nobody, none better", with("").x.better(5), -9);
        Check.due("better(0)", t.x.better(0), -4);
        Check.due("better(61)", t.x.better(61), -6);
        t.dueRefusals("better", 0, 0, 0, 1, 1);
    }

    private static void follow() {
        Check.due("no comers", with("").x.follow(), -9);
        PromisesTest t = with("c20000130;c10003130;");
        Check.due("the one of ONE", t.x.follow(), 1);
        Check.due("KIND as it was", t.x.comer(0, 0), 2);
        Check.due("the figure too", with("c69000130;c62003130;").x.follow(), 1);
        Check.due("of several the least", with("c10000130;c10003130;").x.follow(), 0);
    }

    private static void rowAndJudge() {
        PromisesTest t = with("c20000105;");
        Check.due("row(-1)", t.x.row(-1), -4);
        Check.due("row(100)", t.x.row(100), -6);
        Check.due("an empty row", t.x.judge(), -9);
        int[] levels = {8, 8, 8, 8, 8, 7, 7, 7};
        for (int i = 0; i < levels.length; i++) {
            Check.due("row " + i, t.x.row(levels[i]), i + 1);
        }
        Check.due("all as told", t.x.judge(), -9);
        Check.due("no row", t.x.count(8), 0);
        Check.due("in mind only", t.x.count(1), 0);
        for (int i = 1; i <= 12; i++) {
            Check.due("row", t.x.row(i == 1 ? 8 : i == 2 ? 99 : 0), i);
        }
        Check.due("a thirteenth", t.x.row(0), -6);
        Check.due("a thirteenth below", t.x.row(-1), -4);
        Check.due("in the row", t.x.count(8), 12);
        Check.due("the first that is not so", t.x.judge(), 1);
        Check.due("no row", t.x.count(8), 0);
        t.x.go(5);
        t.x.row(7);
        Check.due("from now on", t.x.judge(), -9);
        t.dueRefusals("row", 0, 0, 0, 2, 2);
    }

    private static void fits() {
        PromisesTest t = with(THREE);
        Check.due("nobody is there", t.x.fits(3), 0);
        t.x.go(1);
        int[] want = {0, 0, 66, 33, 0, 24, 0, 0, 4, 0, 0, 0};
        for (int i = 0; i < want.length; i++) {
            Check.due("fits(" + i + ")", t.x.fits(i), want[i]);
        }
        t.x.kind(0, 2, 3);
        Check.due("the figure as it is: BEST", t.x.fits(6), 16);
        Check.due("the figure as it is: TOLD", t.x.fits(3), 97);
        Check.due("fits(-1)", t.x.fits(-1), -4);
        Check.due("fits(12)", t.x.fits(12), -6);
        t.dueRefusals("fits", 0, 0, 0, 1, 1);
    }

    private static void seeds() {
        // the draws of seed 1 are 38, 118; 33, 115
        PromisesTest t = with("c00000130;c00000130;");
        Check.due("seeds(1, 1, 0)", t.x.seeds(1, 1, 0), 6);
        Check.due("seeds(2, 1, 0)", t.x.seeds(2, 1, 0), 12);
        Check.due("seeds(2, 1, 1)", t.x.seeds(2, 1, 1), 0);
        Check.due("MINUTE of a comer as it was", t.x.comer(1, 2), 0);
        PromisesTest none = with("c00000100;");
        Check.due("seeds(3, -7, 0)", none.x.seeds(3, -7, 0), 39);
        Check.due("seeds(3, 7, 1)", none.x.seeds(3, 7, 1), 3);
        Check.due("seeds(20, 7, 1)", none.x.seeds(20, 7, 1), 20);
        Check.due("seeds(0, 1, 2)", t.x.seeds(0, 1, 2), -4);
        Check.due("seeds(21, 1, 2)", t.x.seeds(21, 1, 2), -6);
        Check.due("seeds(20, 1, 2)", t.x.seeds(20, 1, 2), -2);
        Check.due("seeds(1, 1, -1)", t.x.seeds(1, 1, -1), -2);
        t.dueRefusals("seeds", 0, 2, 0, 1, 1);
    }

    private static void imageAndRestore() {
        PromisesTest t = with("s7=2;c20000105;");
        Check.due("none yet", t.x.restore(), -3);
        t.x.go(2);
        Check.due("image", t.x.image(), 2);
        t.x.go(5);
        t.tell("c00020105;s4=9;k011;");
        t.x.row(8);
        t.x.feed('s');
        t.x.comer(5, 5);
        Check.due("restore", t.x.restore(), 2);
        Check.due("MINUTE", t.x.count(1), 2);
        Check.due("comers", t.x.count(0), 1);
        Check.due("KIND", t.x.comer(0, 0), 2);
        Check.due("in the line", t.x.line(0), 0);
        Check.due("setting", t.x.count(24), 1);
        Check.due("letters stay", t.x.count(7), 1);
        Check.due("the row stays", t.x.count(8), 1);
        t.dueRefusals("restore", 1, 0, 1, 0, 0);
        t.dueKettle("restored", 8, 10, 0, 3);
        Check.due("its own is still on", t.x.rest(2), 0);
        Check.due("go", t.x.go(60), 6);
        Check.due("restore again", t.x.restore(), 2);
        t.x.anew();
        Check.due("a later image", t.x.image(), 0);
        t.x.go(3);
        Check.due("restore that", t.x.restore(), 0);
    }

    private static void count() {
        PromisesTest t = with(THREE);
        t.x.go(4);
        t.x.feed('s');
        t.x.row(3);
        // up to 3 cups for comer 0 at 3, 4 for comer 1 from then on, with 1 cup at 10 degrees
        int[] want = {3, 4, 1, 1, 0, 0, 3, 1, 1};
        for (int i = 0; i < want.length; i++) {
            Check.due("count(" + i + ")", t.x.count(i), want[i]);
        }
        int[] none = {-1, 9, 10, 17, 18, 19, 28, Integer.MAX_VALUE, Integer.MIN_VALUE};
        for (int what : none) {
            Check.due("count(" + what + ")", t.x.count(what), -9);
        }
        t.dueRefusals("count", 0, 0, 0, 0, 0);
    }
}
