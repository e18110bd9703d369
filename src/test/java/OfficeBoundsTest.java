/**
 * What the document says of an OFFICE told in letters: its form, both kinds of FAULT with their places,
 * and how many letters there may be. The sentence stands over its test.
 */
public final class OfficeBoundsTest {
    private static final String DIGIT = "0123456789";
    /** What may stand at each place of a STATEMENT, and behind it. */
    private static final String[] TWO_DIGITS = {"sck", DIGIT, "=", DIGIT, DIGIT + ";", ";", "sck"};
    private static final String[] COMER = {"sck", DIGIT, DIGIT, DIGIT, DIGIT, DIGIT, DIGIT, DIGIT, DIGIT, ";", "sck"};
    private static final String[] KIND = {"sck", DIGIT, DIGIT, DIGIT, ";", "sck"};

    private OfficeBoundsTest() {
    }

    public static void main(String[] args) {
        feedsBounds();
        ninetySixLetters();
        howManyStatements();
        atLeastOneStatement();
        lettersThatFitNowhere();
        endsThatLack();
        oneOrTwoDigits();
        shapeComesFirst();
        settingOutOfRange();
        comerOutOfRange();
        kindOutOfRange();
        noRoom();
        holdsLessThanALevel();
        kettlesOnlyAtMinuteZero();
        minuteGoneBy();
        placeOfTheStatement();
        behindAllAheadOfIt();
        allOrNothing();
        lettersAreNoMore();
        Check.end();
    }

    private static void dueOffice(String letters, int want) {
        dueOffice(new FilledForOne(), letters, want);
    }

    private static void dueOffice(FilledForOne x, String letters, int want) {
        Office.feed(x, letters);
        Check.due("office of \"" + letters + "\" at " + x.count(1), x.office(), want);
    }

    /** "feed: -4; -6 (255; 96, too)" */
    private static void feedsBounds() {
        FilledForOne x = new FilledForOne();
        Check.due("feed(-1)", x.feed(-1), -4);
        Check.due("feed(0)", x.feed(0), 1);
        Check.due("feed(1)", x.feed(1), 2);
        Check.due("feed(254)", x.feed(254), 3);
        Check.due("feed(255)", x.feed(255), 4);
        Check.due("feed(256)", x.feed(256), -6);
        Check.due("letters", x.count(7), 4);
    }

    /** "told in letters, one by one (96 at most)" */
    private static void ninetySixLetters() {
        FilledForOne x = new FilledForOne();
        Office.feed(x, "s0=11;" + "s1=2;".repeat(17));
        Check.due("91 letters", x.count(7), 91);
        Office.feed(x, "s1=3");
        Check.due("95 letters", x.count(7), 95);
        Check.due("the 96th", x.feed(';'), 96);
        Check.due("a 97th", x.feed('s'), -6);
        Check.due("a 97th below", x.feed(-1), -4);
        Check.due("still 96", x.count(7), 96);
        Check.due("all 19 come", x.office(), 19);
        Check.due("the last one, too", x.count(21), 3);
        Check.due("room again", x.feed('s'), 1);
        FilledForOne wrong = new FilledForOne();
        Office.feed(wrong, "s0=11;" + "s1=2;".repeat(17) + "s1=3x");
        Check.due("the 96th does not fit", wrong.office(), -1095);
        FilledForOne lacks = new FilledForOne();
        Office.feed(lacks, "s0=11;" + "s1=2;".repeat(17) + "s1=03;");
        Check.due("\";\" would have been the 97th", lacks.office(), -1096);
    }

    private static void howManyStatements() {
        dueOffice("s0=5;", 1);
        dueOffice("c00000105;", 1);
        dueOffice("c00000105;k011;", 2);
        dueOffice("s0=5;".repeat(19), 19);
    }

    /** "At least one STATEMENT." */
    private static void atLeastOneStatement() {
        dueOffice("", -1000);
        dueOffice(";", -1000);
        dueOffice("s0=5;;", -1005);
    }

    /** "kind 1 the place of the first letter with which no OFFICE can go on": each letter at each place. */
    private static void lettersThatFitNowhere() {
        eachLetter("s0=11;", TWO_DIGITS);
        eachLetter("c00000105;", COMER);
        eachLetter("k011;", KIND);
    }

    private static void eachLetter(String statement, String[] fitting) {
        String ahead = "c00000105;";
        for (int place = 0; place < fitting.length; place++) {
            for (int letter = 0; letter <= 255; letter++) {
                FilledForOne x = new FilledForOne();
                Office.feed(x, ahead + statement.substring(0, place));
                x.feed(letter);
                Office.feed(x, place < statement.length() ? statement.substring(place + 1) : "");
                int fault = -1000 - ahead.length() - place;
                boolean stops = x.office() == fault;
                boolean fits = fitting[place].indexOf((char) letter) >= 0;
                Check.due("letter " + letter + " at " + place + " of " + statement + " fits", stops ? 0 : 1,
                        fits ? 1 : 0);
            }
        }
    }

    /** "(the end, if something lacks)" */
    private static void endsThatLack() {
        for (String statement : new String[] {"s0=5;", "s0=11;", "c00000105;", "k000;"}) {
            for (int length = 0; length < statement.length(); length++) {
                dueOffice(statement.substring(0, length), -1000 - length);
                if (length > 0) {
                    dueOffice("s1=1;" + statement.substring(0, length), -1005 - length);
                }
            }
        }
    }

    /** "its number (1 or 2 digits)" */
    private static void oneOrTwoDigits() {
        dueOffice("s0=;", -1003);
        dueOffice("s0=5;", 1);
        dueOffice("s0=05;", 1);
        dueOffice("s0=005;", -1005);
        dueOffice("s1=00;", 1);
    }

    /** "else kind 2": no number out of range matters as long as there is a letter that fits nowhere. */
    private static void shapeComesFirst() {
        dueOffice("s9=99;", -2000);
        dueOffice("s9=99;c", -1007);
        dueOffice("s9=99;s0=5", -1010);
        dueOffice("c99999999;k999", -1014);
        dueOffice("c99999999;k999;", -2000);
    }

    /** "a number out of range, no such .. SETTING" */
    private static void settingOutOfRange() {
        int[] least = {2, 0, 1, 1, 0, 0, 0, 1};
        int[] greatest = {11, 9, 20, 9, 9, 9, 11, 2};
        for (int s = 0; s <= 7; s++) {
            dueOffice("s" + s + "=" + least[s] + ";", 1);
            dueOffice("s" + s + "=" + greatest[s] + ";", 1);
            dueOffice("s" + s + "=" + (greatest[s] + 1) + ";", -2000);
            dueOffice("s" + s + "=99;", -2000);
            if (least[s] > 0) {
                dueOffice("s" + s + "=" + (least[s] - 1) + ";", -2000);
            }
        }
        dueOffice("s8=1;", -2000);
        dueOffice("s9=1;", -2000);
    }

    private static void comerOutOfRange() {
        String[] right = {"c00000100;", "c60000100;", "c09000100;", "c00119100;", "c00000300;", "c00000130;"};
        String[] wrong = {"c70000100;", "c00120100;", "c00000000;", "c00000400;", "c00000131;"};
        for (String s : right) {
            dueOffice(s, 1);
        }
        for (String s : wrong) {
            dueOffice(s, -2000);
        }
    }

    /** "k": "no such COMER", KINDS 0 .. 6, FIGURE 0 .. 9 */
    private static void kindOutOfRange() {
        dueOffice("k000;", -2000);
        dueOffice("c00000105;k069;", 2);
        dueOffice("c00000105;k079;", -2010);
        dueOffice("c00000105;k160;", -2010);
        FilledForOne x = Office.of("c00000105;".repeat(8));
        dueOffice(x, "k769;", 1);
        dueOffice(x, "k869;", -2000);
        dueOffice(x, "k969;", -2000);
        Check.due("KIND of COMER 7", x.comer(7, 0), 6);
        Check.due("FIGURE of COMER 7", x.comer(7, 1), 9);
    }

    /** "no room": COMERS are 8 at most. */
    private static void noRoom() {
        dueOffice("c00000105;".repeat(7), 7);
        dueOffice("c00000105;".repeat(8), 8);
        dueOffice("c00000105;".repeat(9), -2080);
        FilledForOne x = Office.of("c00000105;".repeat(7));
        dueOffice(x, "c00000105;c00000105;", -2010);
        Check.due("none of the two came", x.count(0), 7);
        dueOffice(x, "c00000105;", 1);
        dueOffice(x, "c00000105;", -2000);
        Check.due("eight", x.count(0), 8);
    }

    /** "HOLDS less than a LEVEL": 4 cups are in KETTLE 0; and, of two, 6 in KETTLE 1. */
    private static void holdsLessThanALevel() {
        FilledForOne x = Office.of("c64000130;");
        x.go(1);
        dueOffice(x, "s0=3;", -2000);
        dueOffice(x, "s0=4;", 1);
        dueOffice(x, "s0=5;", 1);
        FilledForOne two = Office.of("s7=2;c64000130;c66000130;");
        two.go(1);
        dueOffice(two, "s0=5;", -2000);
        dueOffice(two, "s0=6;", 1);
        dueOffice(two, "s0=7;", 1);
        Check.due("set(0, 5)", two.set(0, 5), -3);
        Check.due("set(0, 6)", two.set(0, 6), 7);
        two.anew();
        dueOffice(two, "s0=2;", 1);
    }

    /** "KETTLES other than they are, but at MINUTE 0" */
    private static void kettlesOnlyAtMinuteZero() {
        FilledForOne x = Office.of("c10000130;");
        dueOffice(x, "s7=2;", 1);
        dueOffice(x, "s7=1;s7=2;s7=1;", 3);
        x.go(1);
        dueOffice(x, "s7=2;", -2000);
        dueOffice(x, "s7=1;", 1);
        Check.due("set(7, 2) at 1", x.set(7, 2), -3);
        Check.due("set(7, 1) at 1", x.set(7, 1), 1);
        x.anew();
        dueOffice(x, "s7=2;", 1);
        x.go(1);
        dueOffice(x, "s7=1;", -2000);
        dueOffice(x, "s7=2;", 1);
    }

    /** "c": "a MINUTE that is gone by" */
    private static void minuteGoneBy() {
        FilledForOne x = Office.of("c10119130;");
        dueOffice(x, "c10000105;", 1);
        Office.goTo(x, 50);
        dueOffice(x, "c10049105;", -2000);
        dueOffice(x, "c10050105;", 1);
        dueOffice(x, "c10051105;", 1);
        x.go(1);
        Check.due("the one of MINUTE 50 is there", x.line(0), 2);
        Office.goTo(x, 119);
        dueOffice(x, "c10118105;", -2000);
        dueOffice(x, "c10119105;", 1);
        x.go(1);
        dueOffice(x, "c10119105;", -2000);
        dueOffice(x, "c10120105;", -2000);
    }

    /** "the place of the first letter of the first STATEMENT that .. is not as it must be" */
    private static void placeOfTheStatement() {
        dueOffice("s8=1;s8=1;", -2000);
        dueOffice("s0=5;s8=1;s8=1;", -2005);
        dueOffice("s0=05;k000;", -2006);
        dueOffice("s0=11;c00000105;c00000405;", -2016);
        dueOffice("s0=11;" + "s1=2;".repeat(17) + "s1=3;", 19);
        dueOffice("s0=11;" + "s1=2;".repeat(17) + "s8=3;", -2091);
    }

    /** "behind all ahead of it in the text" */
    private static void behindAllAheadOfIt() {
        dueOffice("k000;c00000105;", -2000);
        dueOffice("c00000105;k000;", 2);
        dueOffice("c00000105;k100;c00000105;", -2010);
        dueOffice("c00000105;c00000105;k100;", 3);
        FilledForOne x = Office.of("c00000105;k031;k042;");
        Check.due("the later KIND stands", x.comer(0, 0), 4);
        Check.due("the later FIGURE stands", x.comer(0, 1), 2);
    }

    /** "Without FAULT all of it comes, with one nothing." */
    private static void allOrNothing() {
        nothingComesOf(State.NEW, "c00000105;".repeat(9), -2080);
        String[] faults = {"s8=1;", "c", "k900;", "x"};
        for (String fault : faults) {
            for (State state : new State[] {State.NEW, State.EVENING}) {
                String ahead = state == State.NEW ? "c25001202;k011;s0=9;s7=2;" : "k021;s0=9;s7=1;";
                boolean shape = fault.length() == 1;
                int place = ahead.length() + (fault.equals("c") ? 1 : 0);
                nothingComesOf(state, ahead + fault, (shape ? -1000 : -2000) - place);
            }
        }
        FilledForOne x = Office.of("c25001202;k011;s0=9;s7=2;");
        int[] came = {x.count(0), x.comer(0, 0), x.comer(0, 1), x.count(20), x.count(27)};
        int[] want = {1, 1, 1, 9, 2};
        for (int i = 0; i < came.length; i++) {
            Check.due("came, " + i, came[i], want[i]);
        }
    }

    private static void nothingComesOf(State state, String letters, int fault) {
        FilledForOne x = state.make();
        dueOffice(x, letters, fault);
        Twins.alike(state + " and " + letters, x, state.make(), 0);
    }

    /** "The letters, which are no more then (with a FAULT neither) .. the FAULT (nothing is counted)" */
    private static void lettersAreNoMore() {
        String[] offices = {"s0=5;", "", "s0", "s8=1;"};
        int[] answers = {1, -1000, -1002, -2000};
        for (int i = 0; i < offices.length; i++) {
            FilledForOne x = new FilledForOne();
            dueOffice(x, offices[i], answers[i]);
            Check.due("letters behind it", x.count(7), 0);
            dueOffice(x, "", -1000);
            Check.due("the next letter", x.feed('s'), 1);
            for (int code = 11; code <= 16; code++) {
                Check.due("count(" + code + ")", x.count(code), 0);
            }
        }
    }
}
