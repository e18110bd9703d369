/** What an object may be like as a call comes: each is made anew as often as it is asked for. */
enum State {
    /** Nobody, MINUTE 0, the DAY is OVER. */
    NEW,
    /** MINUTE 0, three TO COME, one KETTLE, letters and a ROW begun. */
    MORNING,
    /** MINUTE 4: one each of TO COME, SERVED and GONE, two in the LINE, both KETTLES BUSY; an IMAGE of MINUTE 2. */
    MIDDAY,
    /** 8 COMERS, 96 letters, 12 in the ROW. */
    FULL,
    /** All came, cups are left, the DAY is OVER; an IMAGE of MINUTE 3. */
    EVENING;

    FilledForOne make() {
        FilledForOne x = new FilledForOne();
        switch (this) {
            case MORNING:
                Office.tell(x, "s6=04;c42003317;c00000105;c65060230;");
                Office.feed(x, "s0=1");
                x.row(0);
                break;
            case MIDDAY:
                midday(x);
                break;
            case FULL:
                full(x);
                break;
            case EVENING:
                Office.tell(x, "c20000130;c10004200;c50009330;");
                x.go(3);
                x.image();
                x.go(60);
                break;
            default:
                break;
        }
        return x;
    }

    private static void midday(FilledForOne x) {
        Office.tell(x, "s7=2;c10000130;c20000300;c30001330;c44100210;c65003120;");
        x.go(2);
        x.image();
        x.go(2);
        Office.feed(x, "s4=3;");
        x.row(8);
        x.row(3);
        // each refusal once, so that none is counted from 0 on
        x.line(-1);
        x.row(100);
        x.rest(9);
        x.comer(9, 9);
        x.set(7, 1);
    }

    private static void full(FilledForOne x) {
        Office.tell(x, "c31002207;".repeat(8));
        Office.feed(x, "s0=11;" + "k021;".repeat(18));
        for (int i = 0; i < 12; i++) {
            x.row(i);
        }
    }
}
