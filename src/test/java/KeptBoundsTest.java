/**
 * What a DAY ANEW and THE IMAGE keep and what they do not, and what a new object is like. The sentence
 * stands over its test.
 */
public final class KeptBoundsTest {
    private KeptBoundsTest() {
    }

    public static void main(String[] args) {
        newObject();
        anewBegins();
        anewKeeps();
        anewAtMinuteZero();
        imageHasAll();
        imageHasNot();
        imageStays();
        imageOfAnotherSize();
        imageOfABusyKettle();
        imageOfACoolingKettle();
        objectsApart();
        Check.end();
    }

    private static void due(String what, long got, long want) {
        Check.due(what, got, want);
    }

    /** "Nobody, an empty kettle, MINUTE 0." */
    private static void newObject() {
        FilledForOne x = new FilledForOne();
        due("COMERS", x.count(0), 0);
        due("MINUTE", x.count(1), 0);
        due("KETTLES", x.count(27), 1);
        for (int what = 0; what <= 3; what++) {
            due("KETTLE 0, " + what, x.kettle(0, what), 0);
        }
        for (int what = 2; what <= 8; what++) {
            due("count(" + what + ")", x.count(what), what == 5 ? 1 : 0);
        }
        for (int what = 11; what <= 16; what++) {
            due("count(" + what + ")", x.count(what), 0);
        }
        due("no IMAGE", x.restore(), -3);
    }

    /** "a DAY ANEW (nobody come, KETTLES empty, cold, free; MINUTE 0)", "MINUTE it was" */
    private static void anewBegins() {
        FilledForOne x = State.MIDDAY.make();
        due("anew", x.anew(), 4);
        due("MINUTE", x.count(1), 0);
        for (int i = 0; i < 5; i++) {
            due("COMER " + i + " is TO COME", x.comer(i, 5), 0);
            due("COMER " + i + " has not WAITED", x.comer(i, 6), 0);
        }
        for (int k = 0; k <= 1; k++) {
            for (int what = 0; what <= 3; what++) {
                due("KETTLE " + k + ", " + what, x.kettle(k, what), 0);
            }
        }
        due("nobody in the LINE", x.line(0), -9);
        due("it goes by as it did", x.go(4), 4);
        int[] states = {2, 3, 1, 0, 1};
        for (int i = 0; i < states.length; i++) {
            due("COMER " + i + " again", x.comer(i, 5), states[i]);
        }
        FilledForOne aged = Office.of("c20000130;c10100130;");
        Office.goTo(aged, 7);
        due("AGE", aged.kettle(0, 2), 2);
        aged.anew();
        due("no AGE", aged.kettle(0, 2), 0);
        due("no WARMTH", aged.kettle(0, 1), 0);
    }

    private static void anewKeeps() {
        FilledForOne x = State.MIDDAY.make();
        x.set(4, 7);
        x.kind(3, 5, 8);
        x.anew();
        due("COMERS", x.count(0), 5);
        due("WAIT", x.count(24), 7);
        due("KETTLES", x.count(27), 2);
        due("KIND and FIGURE", x.kind(3, 5, 8), 58);
        due("letters", x.count(7), 5);
        due("the ROW", x.count(8), 2);
        for (int code = 11; code <= 16; code++) {
            due("count(" + code + ")", x.count(code), code == 15 ? 0 : 1);
        }
        due("the IMAGE", x.restore(), 2);
    }

    private static void anewAtMinuteZero() {
        FilledForOne x = new FilledForOne();
        due("anew of nobody", x.anew(), 0);
        Office.tell(x, "c10119130;");
        due("anew at 0", x.anew(), 0);
        Office.goTo(x, 122);
        due("OVER", x.count(5), 1);
        due("anew of a DAY that is OVER", x.anew(), 122);
        due("not OVER", x.count(5), 0);
        due("go(60)", x.go(60), 60);
    }

    /** "THE IMAGE: all that there is" */
    private static void imageHasAll() {
        FilledForOne x = State.MIDDAY.make();
        due("image", x.image(), 4);
        for (int s = 0; s <= 6; s++) {
            x.set(s, 9);
        }
        for (int i = 0; i < 5; i++) {
            x.kind(i, 0, 0);
        }
        x.go(60);
        Office.tell(x, "c66119330;");
        x.anew();
        x.set(7, 1);
        due("restore", x.restore(), 4);
        FilledForOne twin = State.MIDDAY.make();
        // the letters were used up, and the IMAGE is a later one
        twin.office();
        Office.tell(twin, "s4=1;");
        twin.image();
        x.office();
        due("office without letters", x.count(7), 0);
        Twins.alike("restored", x, twin, 0);
    }

    /** "all that there is, but it, letters, the ROW, REFUSALS" */
    private static void imageHasNot() {
        FilledForOne x = new FilledForOne();
        x.image();
        Office.feed(x, "s0=5");
        x.row(1);
        x.row(0);
        x.line(-1);
        due("restore", x.restore(), 0);
        due("letters", x.count(7), 4);
        due("the ROW", x.count(8), 2);
        due("REFUSALS", x.count(14), 1);
        due("judge", x.judge(), 0);
        x.feed(';');
        due("office", x.office(), 1);
        due("restore", x.restore(), 0);
        due("letters that came are not again", x.count(7), 0);
        due("a ROW that was judged is not again", x.count(8), 0);
        due("HOLDS", x.count(20), 8);
    }

    private static void imageStays() {
        FilledForOne x = Office.of("c20000130;");
        x.go(2);
        due("image", x.image(), 2);
        for (int i = 0; i < 3; i++) {
            x.go(60);
            due("OVER", x.count(1), 6);
            due("restore", x.restore(), 2);
            due("BUSY till 5", x.kettle(0, 3), 3);
        }
        x.go(1);
        due("a later one", x.image(), 3);
        x.anew();
        due("restore the later one", x.restore(), 3);
    }

    /** Those who came to be behind the IMAGE are no more, and others may come. */
    private static void imageOfAnotherSize() {
        FilledForOne x = Office.of("c10000130;");
        x.image();
        Office.tell(x, "c21001230;" + "c10002130;".repeat(6));
        due("eight", x.count(0), 8);
        x.go(60);
        due("all eight SERVED", x.count(3), 8);
        due("the REST of that DAY", x.rest(1), 0);
        x.restore();
        due("one", x.count(0), 1);
        due("comer(1, 0)", x.comer(1, 0), -1);
        due("another", Office.tell(x, "c65003101;"), 1);
        due("its KIND", x.comer(1, 0), 6);
        due("it is TO COME", x.comer(1, 5), 0);
        FilledForOne nobody = new FilledForOne();
        nobody.image();
        Office.tell(nobody, "c10000130;".repeat(8));
        nobody.go(3);
        nobody.restore();
        due("nobody", nobody.count(0), 0);
        due("nobody in the LINE", nobody.count(2), 0);
        due("OVER", nobody.count(5), 1);
    }

    /** Who put a KETTLE on is in the IMAGE, too: COMER 1 waits for its own, though COMER 0 had that later. */
    private static void imageOfABusyKettle() {
        FilledForOne x = Office.of("s7=2;s0=2;s1=9;c10100330;c10000330;");
        x.go(1);
        x.image();
        Office.goTo(x, 101);
        due("COMER 0 put KETTLE 0 on: 10 degrees", x.kettle(0, 1), 10);
        x.restore();
        x.go(1);
        due("its own is BUSY: not the other", x.kettle(1, 0), 0);
        due("its own is BUSY", x.kettle(0, 3), 8);
    }

    private static void imageOfACoolingKettle() {
        FilledForOne x = Office.of("c20000130;c10100130;");
        Office.goTo(x, 10);
        x.image();
        Office.goTo(x, 102);
        due("AGE of one that is put on", x.kettle(0, 2), 0);
        due("restore", x.restore(), 10);
        int[] kettle = {7, 9, 2, 0};
        for (int what = 0; what < kettle.length; what++) {
            due("KETTLE 0, " + what, x.kettle(0, what), kettle[what]);
        }
    }

    private static void objectsApart() {
        FilledForOne one = Office.of("c10000130;");
        FilledForOne other = new FilledForOne();
        one.go(1);
        one.set(0, 11);
        one.line(-1);
        due("nobody in the other", other.count(0), 0);
        due("HOLDS of the other", other.count(20), 8);
        due("REFUSALS of the other", other.count(14), 0);
    }
}
