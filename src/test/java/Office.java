/** Offices for tests: objects that have been told letters. */
final class Office {
    private Office() {
    }

    /** The letters must be an OFFICE: a test that mistells one would ask nobody. */
    static FilledForOne of(String letters) {
        FilledForOne x = new FilledForOne();
        if (tell(x, letters) < 0) {
            Check.due("a FAULT in the test's own " + letters, 1, 0);
        }
        return x;
    }

    /** Nothing is told by no letters: an office() without letters would be a fault. */
    static int tell(FilledForOne x, String letters) {
        feed(x, letters);
        return letters.isEmpty() ? 0 : x.office();
    }

    static void feed(FilledForOne x, String letters) {
        for (int i = 0; i < letters.length(); i++) {
            x.feed(letters.charAt(i));
        }
    }

    /** In several steps, for go() takes 60 at most. */
    static void goTo(FilledForOne x, int minute) {
        while (x.count(1) < minute && x.count(5) == 0) {
            x.go(Math.min(60, minute - x.count(1)));
        }
    }
}
