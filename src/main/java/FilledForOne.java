/**
 * A kettle in an office and those who come for tea: the day as it goes by, minute by minute,
 * and days in mind that ask what would come of it. The document is ../shared/DOC.md.
 */
public final class FilledForOne {
    private static final int NOBODY = -1;
    private static final int OTHER = -2;
    private static final int STATE = -3;
    private static final int BELOW = -4;
    private static final int ROOM = -6;
    private static final int NONE = -9;
    private static final int ROUNDS_LESS = 1000000000;

    private static final int HOLDS = 0;
    private static final int TAP = 1;
    private static final int HEAT = 2;
    private static final int COOLS = 3;
    private static final int WAIT = 4;
    private static final int WASTE = 5;
    private static final int MARK = 6;
    private static final int KETTLES = 7;
    private static final int[] FIRST_SETTINGS = {8, 1, 4, 3, 1, 2, 3, 1};
    private static final int[] LEAST_SETTINGS = {2, 0, 1, 1, 0, 0, 0, 1};
    private static final int[] GREATEST_SETTINGS = {11, 9, 20, 9, 9, 9, 11, 2};

    private static final int ONE = 1;
    private static final int FULL = 2;
    private static final int LINE = 3;
    private static final int BEST = 4;
    private static final int MARKED = 5;
    private static final int TOLD = 6;
    private static final int KINDS = 7;

    private static final int TO_COME = 0;
    private static final int IN_LINE = 1;
    private static final int SERVED = 2;
    private static final int GONE = 3;

    private static final int MOST_COMERS = 8;
    private static final int MOST_KETTLES = 2;
    private static final int MOST_LETTERS = 96;
    private static final int GREATEST_LETTER = 255;
    private static final int MOST_IN_ROW = 12;
    private static final int GREATEST_IN_ROW = 99;
    private static final int MOST_CUPS = 11;
    private static final int MOST_HOURLY = 99;
    private static final int MOST_SEATS = 8;
    private static final int MOST_ROUNDS = 20;
    private static final int MOST_SEED_DAYS = 20;
    private static final int GREATEST_FIGURE = 9;
    private static final int GREATEST_WANTS = 3;
    private static final int GREATEST_PATIENCE = 30;
    private static final int COMING_MINUTES = 120;
    private static final int DAY_MINUTES = 180;
    private static final int HOUR = 60;
    private static final int BOILING = 10;
    private static final int HOT = 8;
    private static final int GONE_COST = 9;
    private static final int BOIL_COST = 3;
    private static final int NOT_SERVED = 99;
    private static final int DEARER_THAN_ANY = 0x7fffffff;
    private static final int WITHOUT_SIGN = 0x7fffffff;

    private final Day now;
    private final Day kept;
    private final Mind mind;
    private final Arrivals arrivals;
    private final Letters letters;
    private final int[] row;
    private final int[] refusals;
    private int inRow;
    private boolean imageTaken;

    public FilledForOne() {
        now = new Day();
        kept = new Day();
        mind = new Mind();
        arrivals = new Arrivals();
        letters = new Letters();
        row = new int[MOST_IN_ROW];
        refusals = new int[1 - ROOM];
    }

    public int feed(int letter) {
        if (letter < 0) {
            return refuse(BELOW);
        }
        if (letter > GREATEST_LETTER || letters.length >= MOST_LETTERS) {
            return refuse(ROOM);
        }
        return letters.append(letter);
    }

    public int office() {
        mind.take(now);
        int answer = letters.read(mind.day);
        if (answer > 0) {
            now.copy(mind.day);
        }
        letters.length = 0;
        return answer;
    }

    public int comer(int comer, int what) {
        if (!now.hasComer(comer)) {
            return refuse(NOBODY);
        }
        if (what < 0 || what > 7) {
            return refuse(OTHER);
        }
        Comer asked = now.comers[comer];
        return what == 7 ? now.upTo(asked, asked.kind) : asked.tell(what);
    }

    public int kind(int comer, int kind, int figure) {
        if (!now.hasComer(comer)) {
            return refuse(NOBODY);
        }
        if (kind < 0 || kind >= KINDS) {
            return refuse(OTHER);
        }
        if (figure < 0) {
            return refuse(BELOW);
        }
        if (figure > GREATEST_FIGURE) {
            return refuse(ROOM);
        }
        Comer changed = now.comers[comer];
        int had = 10 * changed.kind + changed.figure;
        changed.become(kind, figure);
        return had;
    }

    public int kettle(int kettle, int what) {
        if (kettle < 0 || kettle >= now.kettlesInUse()) {
            return refuse(NOBODY);
        }
        if (what < 0 || what > 3) {
            return refuse(OTHER);
        }
        return now.kettles[kettle].tell(what, now.minute);
    }

    public int set(int setting, int v) {
        int refusal = now.settingRefusal(setting, v);
        return refusal != 0 ? refuse(refusal) : now.change(setting, v);
    }

    public int go(int n) {
        if (n < 1) {
            return refuse(BELOW);
        }
        if (n > HOUR) {
            return refuse(ROOM);
        }
        if (now.isOver()) {
            return refuse(STATE);
        }
        now.pass(n);
        return now.minute;
    }

    public int anew() {
        int was = now.minute;
        now.begin();
        return was;
    }

    public int line(int i) {
        if (i < 0) {
            return refuse(BELOW);
        }
        return i < now.lined ? now.line[i] : NONE;
    }

    public int rest(int what) {
        if (what < 0 || what > 4) {
            return refuse(OTHER);
        }
        mind.take(now);
        return mind.restOfDay(what);
    }

    public int when(int comer) {
        if (!now.hasComer(comer)) {
            return refuse(NOBODY);
        }
        mind.take(now);
        return mind.servedAt(comer);
    }

    public int best(int comer, int what) {
        if (!now.hasComer(comer)) {
            return refuse(NOBODY);
        }
        if (what != 0 && what != 1) {
            return refuse(OTHER);
        }
        mind.take(now);
        return mind.bestKind(comer, what == 0);
    }

    public int rounds(int what) {
        if (what < 0 || what > 3) {
            return ROUNDS_LESS - refuse(OTHER);
        }
        mind.take(now);
        int played = mind.playRounds();
        if (what == 0) {
            return played;
        }
        if (what == 1) {
            return mind.kindDigits();
        }
        return what == 2 ? mind.costAnew() : mind.lostByKinds();
    }

    public int marks(int what) {
        if (what != 0 && what != 1) {
            return refuse(OTHER);
        }
        mind.take(now);
        return mind.bestMark(what == 0);
    }

    public int second() {
        mind.take(now);
        return mind.savedBySecond();
    }

    public int urn(int v) {
        if (v < 0) {
            return refuse(BELOW);
        }
        if (v > MOST_HOURLY) {
            return refuse(ROOM);
        }
        mind.take(now);
        arrivals.take(now);
        return arrivals.hours() * v < mind.costAnew() ? 1 : 0;
    }

    public int least(int what) {
        if (what != 0 && what != 1) {
            return refuse(OTHER);
        }
        if (now.someoneWantsTooMuch()) {
            return refuse(STATE);
        }
        arrivals.take(now);
        return arrivals.leastBoils(now, what == 0);
    }

    public int ferry(int n, int w) {
        if (n < 1 || w < 0) {
            return refuse(BELOW);
        }
        if (n > MOST_SEATS || w > HOUR) {
            return refuse(ROOM);
        }
        arrivals.take(now);
        return arrivals.waitedForSeats(n, w);
    }

    public int times(int w) {
        if (w < 1) {
            return refuse(BELOW);
        }
        if (w > HOUR) {
            return refuse(ROOM);
        }
        arrivals.take(now);
        return arrivals.waitedForTimes(w);
    }

    public int better(int w) {
        if (w < 1) {
            return refuse(BELOW);
        }
        if (w > HOUR) {
            return refuse(ROOM);
        }
        arrivals.take(now);
        return arrivals.bestSeats(w);
    }

    public int follow() {
        mind.take(now);
        return mind.comerToFollow(now);
    }

    public int row(int v) {
        if (v < 0) {
            return refuse(BELOW);
        }
        if (v > GREATEST_IN_ROW || inRow >= row.length) {
            return refuse(ROOM);
        }
        row[inRow] = v;
        inRow++;
        return inRow;
    }

    public int judge() {
        mind.take(now);
        int answer = mind.firstOtherLevel(row, inRow);
        inRow = 0;
        return answer;
    }

    public int fits(int cups) {
        if (cups < 0) {
            return refuse(BELOW);
        }
        if (cups > MOST_CUPS) {
            return refuse(ROOM);
        }
        return now.kindsThatFill(cups);
    }

    public int seeds(int n, int z, int what) {
        if (n < 1) {
            return refuse(BELOW);
        }
        if (n > MOST_SEED_DAYS) {
            return refuse(ROOM);
        }
        if (what != 0 && what != 1) {
            return refuse(OTHER);
        }
        mind.take(now);
        return mind.drawnDays(n, z, what == 0);
    }

    public int image() {
        kept.copy(now);
        imageTaken = true;
        return now.minute;
    }

    public int restore() {
        if (!imageTaken) {
            return refuse(STATE);
        }
        now.copy(kept);
        return now.minute;
    }

    public int count(int what) {
        if (what >= 11 && what <= 16) {
            return refusals[what - 10];
        }
        if (what >= 20 && what <= 27) {
            return now.settings[what - 20];
        }
        switch (what) {
            case 0: return now.known;
            case 1: return now.minute;
            case 2: return now.lined;
            case 3: return now.comersWith(SERVED);
            case 4: return now.comersWith(GONE);
            case 5: return now.isOver() ? 1 : 0;
            case 6: return now.allWaited();
            case 7: return letters.length;
            case 8: return inRow;
            default: return NONE;
        }
    }

    private int refuse(int refusal) {
        int place = -refusal;
        if (place > 0 && place < refusals.length) {
            refusals[place]++;
        }
        return refusal;
    }

    /** Rounded up; 1 at least, for even boiling water that is put on again is busy for a minute. */
    private static int heatingMinutes(int cups, int degrees, int heat) {
        int work = cups * degrees * heat;
        return work > 0 ? (work + 99) / 100 : 1;
    }

    private static final class Comer {
        int kind;
        int figure;
        int minute;
        int wants;
        int patience;
        int state;
        int servedAt;

        void copy(Comer other) {
            become(other.kind, other.figure);
            minute = other.minute;
            wants = other.wants;
            patience = other.patience;
            state = other.state;
            servedAt = other.servedAt;
        }

        void become(int newKind, int newFigure) {
            kind = newKind;
            figure = newFigure;
        }

        int waited() {
            if (state == SERVED) {
                return servedAt - minute;
            }
            return state == GONE ? patience : 0;
        }

        int tell(int what) {
            switch (what) {
                case 0: return kind;
                case 1: return figure;
                case 2: return minute;
                case 3: return wants;
                case 4: return patience;
                case 5: return state;
                default: return waited();
            }
        }
    }

    private static final class Kettle {
        int level;
        int warmth;
        int age;
        int busyTill;
        int putOnBy;

        void copy(Kettle other) {
            level = other.level;
            warmth = other.warmth;
            age = other.age;
            busyTill = other.busyTill;
            putOnBy = other.putOnBy;
        }

        /** Who put it on counts only while it is busy, and so may stay. */
        void begin() {
            level = 0;
            warmth = 0;
            age = 0;
            busyTill = 0;
        }

        boolean isFree(int minute) {
            return busyTill <= minute;
        }

        boolean isReady(int minute, int cups) {
            return busyTill <= minute && warmth >= HOT && level >= cups;
        }

        void fill(int cups) {
            if (cups > 0) {
                warmth = level * warmth / cups;
                level = cups;
            }
        }

        void putOn(int comer, int start, int heat) {
            busyTill = start + heatingMinutes(level, BOILING - warmth, heat);
            warmth = BOILING;
            age = 0;
            putOnBy = comer;
        }

        void cool(int minutesByDegree) {
            age++;
            if (age >= minutesByDegree) {
                warmth = Math.max(0, warmth - 1);
                age = 0;
            }
        }

        int tell(int what, int minute) {
            switch (what) {
                case 0: return level;
                case 1: return warmth;
                case 2: return age;
                default: return Math.max(0, busyTill - minute);
            }
        }
    }

    /** A day with its settings: the one that goes by, the one of the image, or one in mind. */
    private static final class Day {
        final int[] settings;
        final Comer[] comers;
        final Kettle[] kettles;
        final int[] line;
        int known;
        int lined;
        int minute;
        int boils;

        Day() {
            settings = FIRST_SETTINGS.clone();
            comers = new Comer[MOST_COMERS];
            for (int i = 0; i < comers.length; i++) {
                comers[i] = new Comer();
            }
            kettles = new Kettle[MOST_KETTLES];
            for (int i = 0; i < kettles.length; i++) {
                kettles[i] = new Kettle();
            }
            line = new int[MOST_COMERS];
        }

        void copy(Day other) {
            System.arraycopy(other.settings, 0, settings, 0, settings.length);
            System.arraycopy(other.line, 0, line, 0, line.length);
            known = other.known;
            lined = other.lined;
            minute = other.minute;
            for (int i = 0; i < known; i++) {
                comers[i].copy(other.comers[i]);
            }
            for (int i = 0; i < kettles.length; i++) {
                kettles[i].copy(other.kettles[i]);
            }
        }

        void begin() {
            minute = 0;
            lined = 0;
            for (int i = 0; i < known; i++) {
                comers[i].state = TO_COME;
            }
            for (int i = 0; i < kettles.length; i++) {
                kettles[i].begin();
            }
        }

        boolean hasComer(int comer) {
            return comer >= 0 && comer < known;
        }

        int kettlesInUse() {
            return settings[KETTLES];
        }

        int settingRefusal(int setting, int v) {
            if (setting < 0 || setting >= settings.length) {
                return NOBODY;
            }
            if (v < LEAST_SETTINGS[setting]) {
                return BELOW;
            }
            if (v > GREATEST_SETTINGS[setting]) {
                return ROOM;
            }
            boolean spills = setting == HOLDS && v < highestLevel();
            boolean tooLate = setting == KETTLES && v != settings[KETTLES] && minute != 0;
            return spills || tooLate ? STATE : 0;
        }

        int change(int setting, int v) {
            int was = settings[setting];
            settings[setting] = v;
            return was;
        }

        boolean add(int kind, int figure, int comesAt, int wants, int patience) {
            boolean fits = known < comers.length && kind < KINDS
                    && comesAt < COMING_MINUTES && comesAt >= minute
                    && wants >= 1 && wants <= GREATEST_WANTS && patience <= GREATEST_PATIENCE;
            if (fits) {
                Comer added = comers[known];
                added.become(kind, figure);
                added.minute = comesAt;
                added.wants = wants;
                added.patience = patience;
                added.state = TO_COME;
                known++;
            }
            return fits;
        }

        boolean isOver() {
            return minute >= DAY_MINUTES || lined == 0 && comersWith(TO_COME) == 0 && allFree();
        }

        boolean allFree() {
            for (int i = 0; i < kettlesInUse(); i++) {
                if (!kettles[i].isFree(minute)) {
                    return false;
                }
            }
            return true;
        }

        void pass(int minutes) {
            for (int i = 0; i < minutes && !isOver(); i++) {
                passMinute();
            }
        }

        void passMinute() {
            lineUp();
            loseImpatient();
            for (int i = 0; i < lined; i++) {
                if (!serve(line[i])) {
                    boil(line[i]);
                }
            }
            closeUp();
            coolDown();
            minute++;
        }

        void lineUp() {
            for (int i = 0; i < known; i++) {
                if (comers[i].state == TO_COME && comers[i].minute == minute && lined < line.length) {
                    comers[i].state = IN_LINE;
                    line[lined] = i;
                    lined++;
                }
            }
        }

        void loseImpatient() {
            for (int i = 0; i < lined; i++) {
                Comer waiting = comers[line[i]];
                if (minute - waiting.minute > waiting.patience) {
                    waiting.state = GONE;
                }
            }
            closeUp();
        }

        boolean serve(int comer) {
            Comer asking = comers[comer];
            Kettle ready = firstReady(asking.wants);
            if (ready != null) {
                ready.level -= asking.wants;
                asking.state = SERVED;
                asking.servedAt = minute;
            }
            return ready != null;
        }

        void boil(int comer) {
            Kettle free = firstFree();
            if (free == null || waitsForOwn(comer)) {
                return;
            }
            int cups = upTo(comers[comer], comers[comer].kind);
            int start = minute;
            if (free.level < cups) {
                free.fill(cups);
                start += settings[TAP];
            }
            free.putOn(comer, start, settings[HEAT]);
            boils++;
        }

        Kettle firstReady(int cups) {
            for (int i = 0; i < kettlesInUse(); i++) {
                if (kettles[i].isReady(minute, cups)) {
                    return kettles[i];
                }
            }
            return null;
        }

        Kettle firstFree() {
            for (int i = 0; i < kettlesInUse(); i++) {
                if (kettles[i].isFree(minute)) {
                    return kettles[i];
                }
            }
            return null;
        }

        boolean waitsForOwn(int comer) {
            for (int i = 0; i < kettlesInUse(); i++) {
                if (kettles[i].putOnBy == comer && !kettles[i].isFree(minute)) {
                    return true;
                }
            }
            return false;
        }

        /** Those served or gone leave their places to the ones behind. */
        void closeUp() {
            int stay = 0;
            for (int i = 0; i < lined; i++) {
                if (comers[line[i]].state == IN_LINE) {
                    line[stay] = line[i];
                    stay++;
                }
            }
            lined = stay;
        }

        void coolDown() {
            for (int i = 0; i < kettlesInUse(); i++) {
                if (kettles[i].level > 0 && kettles[i].isFree(minute)) {
                    kettles[i].cool(settings[COOLS]);
                }
            }
        }

        /** The kind is asked for apart from the comer: fits() tries kinds that it does not have. */
        int upTo(Comer comer, int kind) {
            int aim;
            switch (kind) {
                case ONE: aim = comer.wants; break;
                case FULL: aim = settings[HOLDS]; break;
                case LINE: aim = wantsInLine(); break;
                case BEST: aim = wantsInLine() + wantsToCome(minute + comer.figure); break;
                case MARKED: aim = settings[MARK]; break;
                case TOLD: aim = comer.figure; break;
                default: aim = comer.wants + 1; break;
            }
            return Math.min(settings[HOLDS], Math.max(comer.wants, aim));
        }

        int wantsInLine() {
            int wants = 0;
            for (int i = 0; i < known; i++) {
                if (comers[i].state == IN_LINE) {
                    wants += comers[i].wants;
                }
            }
            return wants;
        }

        int wantsToCome(int lastMinute) {
            int wants = 0;
            for (int i = 0; i < known; i++) {
                if (comers[i].state == TO_COME && comers[i].minute <= lastMinute) {
                    wants += comers[i].wants;
                }
            }
            return wants;
        }

        int kindsThatFill(int cups) {
            int kinds = 0;
            for (int kind = 0; kind < KINDS && lined > 0; kind++) {
                if (upTo(comers[line[0]], kind) == cups) {
                    kinds |= 1 << kind;
                }
            }
            return kinds;
        }

        int comersWith(int state) {
            int with = 0;
            for (int i = 0; i < known; i++) {
                if (comers[i].state == state) {
                    with++;
                }
            }
            return with;
        }

        boolean someoneWantsTooMuch() {
            for (int i = 0; i < known; i++) {
                if (comers[i].wants > settings[HOLDS]) {
                    return true;
                }
            }
            return false;
        }

        int allWaited() {
            int waited = 0;
            for (int i = 0; i < known; i++) {
                waited += comers[i].waited();
            }
            return waited;
        }

        int cupsLeft() {
            int cups = 0;
            for (int i = 0; i < kettlesInUse(); i++) {
                cups += kettles[i].level;
            }
            return cups;
        }

        int highestLevel() {
            int highest = 0;
            for (int i = 0; i < kettlesInUse(); i++) {
                highest = Math.max(highest, kettles[i].level);
            }
            return highest;
        }

        int cost() {
            return allWaited() * settings[WAIT] + cupsLeft() * settings[WASTE]
                    + comersWith(GONE) * GONE_COST;
        }
    }

    /** What would come of a day: a copy is tried out, so that the true one stays as it is. */
    private static final class Mind {
        final Day day;
        private int seed;

        Mind() {
            day = new Day();
        }

        void take(Day other) {
            day.copy(other);
        }

        int restOfDay(int what) {
            day.boils = 0;
            day.pass(DAY_MINUTES);
            switch (what) {
                case 0: return day.allWaited();
                case 1: return day.comersWith(GONE);
                case 2: return day.boils;
                case 3: return day.cupsLeft();
                default: return day.cost();
            }
        }

        int servedAt(int comer) {
            day.pass(DAY_MINUTES);
            Comer asked = day.comers[comer];
            return asked.state == SERVED ? asked.servedAt : NONE;
        }

        /** Lets the minutes pass itself: through pass() the calls of rounds() would go too deep. */
        int costAnew() {
            day.begin();
            for (int i = 0; i < DAY_MINUTES && !day.isOver(); i++) {
                day.passMinute();
            }
            return day.cost();
        }

        /** The kind that a comer has stays as it was. */
        int bestKind(int comer, boolean forItself) {
            Comer tried = day.comers[comer];
            int had = tried.kind;
            int best = 0;
            int least = DEARER_THAN_ANY;
            for (int kind = 0; kind < KINDS; kind++) {
                tried.kind = kind;
                int cost = costAnew();
                if (forItself) {
                    cost = tried.state == SERVED ? tried.waited() : NOT_SERVED;
                }
                if (cost < least) {
                    least = cost;
                    best = kind;
                }
            }
            tried.kind = had;
            return best;
        }

        int playRounds() {
            boolean changed = true;
            int played = 0;
            while (changed && played < MOST_ROUNDS) {
                changed = false;
                for (int i = 0; i < day.known; i++) {
                    int best = bestKind(i, true);
                    changed = changed || best != day.comers[i].kind;
                    day.comers[i].kind = best;
                }
                played++;
            }
            return played;
        }

        int kindDigits() {
            int digits = 0;
            for (int i = day.known - 1; i >= 0; i--) {
                digits = digits * 10 + day.comers[i].kind;
            }
            return digits;
        }

        int lostByKinds() {
            int cost = costAnew();
            int least = DEARER_THAN_ANY;
            for (int kind = 0; kind < KINDS; kind++) {
                for (int i = 0; i < day.known; i++) {
                    day.comers[i].kind = kind;
                }
                least = Math.min(least, costAnew());
            }
            return cost - least;
        }

        int bestMark(boolean asMark) {
            int best = 0;
            int least = DEARER_THAN_ANY;
            for (int mark = 0; mark <= day.settings[HOLDS]; mark++) {
                day.settings[MARK] = mark;
                int cost = costAnew();
                if (cost < least) {
                    least = cost;
                    best = mark;
                }
            }
            return asMark ? best : least;
        }

        int savedBySecond() {
            day.settings[KETTLES] = 1;
            int withOne = costAnew();
            day.settings[KETTLES] = 2;
            return withOne - costAnew();
        }

        /** The kinds and figures come from the true day, for here they are overwritten. */
        int comerToFollow(Day told) {
            int best = NONE;
            int least = DEARER_THAN_ANY;
            for (int i = 0; i < told.known; i++) {
                Comer followed = told.comers[i];
                for (int j = 0; j < day.known; j++) {
                    day.comers[j].become(followed.kind, followed.figure);
                }
                int cost = costAnew();
                if (cost < least) {
                    least = cost;
                    best = i;
                }
            }
            return best;
        }

        int firstOtherLevel(int[] told, int count) {
            for (int i = 0; i < count && i < told.length; i++) {
                day.pass(1);
                if (day.kettles[0].level != told[i]) {
                    return i;
                }
            }
            return NONE;
        }

        int drawnDays(int days, int firstSeed, boolean costs) {
            seed = firstSeed;
            int cost = 0;
            int gone = 0;
            for (int i = 0; i < days; i++) {
                for (int j = 0; j < day.known; j++) {
                    day.comers[j].minute = draw(COMING_MINUTES);
                }
                cost += costAnew();
                gone += day.comersWith(GONE);
            }
            return costs ? cost : gone;
        }

        int draw(int below) {
            seed = seed * 1103515245 + 12345;
            return below > 0 ? (seed & WITHOUT_SIGN) / 65536 % below : 0;
        }
    }

    /** The minutes and wants of all comers, the earliest first, of several by numbers. */
    private static final class Arrivals {
        final int[] minutes;
        final int[] wants;
        int count;

        Arrivals() {
            minutes = new int[MOST_COMERS];
            wants = new int[MOST_COMERS];
        }

        void take(Day day) {
            count = 0;
            for (int i = 0; i < day.known && count < minutes.length; i++) {
                insert(day.comers[i].minute, day.comers[i].wants);
            }
        }

        void insert(int minute, int cups) {
            int place = count;
            while (place > 0 && minutes[place - 1] > minute) {
                minutes[place] = minutes[place - 1];
                wants[place] = wants[place - 1];
                place--;
            }
            minutes[place] = minute;
            wants[place] = cups;
            count++;
        }

        int hours() {
            if (count == 0) {
                return 0;
            }
            return Math.max(1, (minutes[count - 1] - minutes[0] + HOUR - 1) / HOUR);
        }

        int leastBoils(Day day, boolean asCost) {
            int best = 0;
            int least = DEARER_THAN_ANY;
            for (int rows = 0; rows < 1 << count; rows++) {
                int cost = boilsCost(rows, day.settings);
                if (cost < least) {
                    least = cost;
                    best = rows;
                }
            }
            return asCost ? least : best;
        }

        /** DEARER_THAN_ANY if a row holds too much or the last comer ends none. */
        int boilsCost(int rows, int[] settings) {
            int cost = 0;
            int end = 0;
            int first = 0;
            int cups = 0;
            for (int k = 0; k < count; k++) {
                cups += wants[k];
                if (cups > settings[HOLDS]) {
                    return DEARER_THAN_ANY;
                }
                if ((rows >> k & 1) == 1) {
                    end = Math.max(end, minutes[k]) + settings[TAP]
                            + heatingMinutes(cups, BOILING, settings[HEAT]);
                    cost += waitedTill(end, first, k) * settings[WAIT] + BOIL_COST;
                    first = k + 1;
                    cups = 0;
                }
            }
            return first == count ? cost : DEARER_THAN_ANY;
        }

        int waitedTill(int end, int first, int last) {
            int waited = 0;
            for (int k = first; k <= last && k < count; k++) {
                waited += end - minutes[k];
            }
            return waited;
        }

        int waitedForSeats(int seats, int late) {
            int waited = 0;
            int first = 0;
            for (int k = 0; k < count; k++) {
                if (k - first + 1 == seats) {
                    waited += waitedTill(minutes[k], first, k);
                    first = k + 1;
                }
            }
            if (first < count) {
                waited += waitedTill(minutes[count - 1] + late, first, count - 1);
            }
            return waited;
        }

        int waitedForTimes(int every) {
            int waited = 0;
            for (int k = 0; k < count && every > 0; k++) {
                waited += Math.floorMod(-minutes[k], every);
            }
            return waited;
        }

        int bestSeats(int w) {
            int best = NONE;
            int most = 0;
            for (int seats = 1; seats <= MOST_SEATS; seats++) {
                int saved = waitedForTimes(w) - waitedForSeats(seats, w);
                if (saved > most) {
                    most = saved;
                    best = seats;
                }
            }
            return best;
        }
    }

    /** The letters of an office as they come, and how they are read. */
    private static final class Letters {
        final int[] text;
        int length;
        private int at;

        Letters() {
            text = new int[MOST_LETTERS];
        }

        int append(int letter) {
            if (length < text.length) {
                text[length] = letter;
                length++;
            }
            return length;
        }

        /** How many statements the day has taken, or the fault, with which the day is of no use. */
        int read(Day day) {
            at = 0;
            for (int i = 0; i < MOST_LETTERS && (i == 0 || at < length); i++) {
                if (!skipStatement()) {
                    return -1000 - at;
                }
            }
            at = 0;
            int count = 0;
            while (at < length && count < MOST_LETTERS) {
                int start = at;
                if (!skipStatement() || !carryOut(day, start)) {
                    return -2000 - start;
                }
                count++;
            }
            return count;
        }

        /** Goes on to the place behind a statement, or to the first letter that fits none. */
        boolean skipStatement() {
            if (skip('s')) {
                return skipDigits(1) && skip('=') && skipDigits(1) && (skip(';') || skipDigits(1) && skip(';'));
            }
            if (skip('c')) {
                return skipDigits(8) && skip(';');
            }
            return skip('k') && skipDigits(3) && skip(';');
        }

        boolean skip(char sign) {
            boolean fits = letterAt(at) == sign;
            at += fits ? 1 : 0;
            return fits;
        }

        boolean skipDigits(int count) {
            for (int i = 0; i < count; i++) {
                if (letterAt(at) < '0' || letterAt(at) > '9') {
                    return false;
                }
                at++;
            }
            return true;
        }

        boolean carryOut(Day day, int start) {
            if (letterAt(start) == 's') {
                int setting = number(start + 1, 1);
                int v = number(start + 3, at - start - 4);
                boolean fits = day.settingRefusal(setting, v) == 0;
                if (fits) {
                    day.change(setting, v);
                }
                return fits;
            }
            if (letterAt(start) == 'c') {
                return day.add(number(start + 1, 1), number(start + 2, 1), number(start + 3, 3),
                        number(start + 6, 1), number(start + 7, 2));
            }
            int comer = number(start + 1, 1);
            int kind = number(start + 2, 1);
            boolean fits = day.hasComer(comer) && kind < KINDS;
            if (fits) {
                day.comers[comer].become(kind, number(start + 3, 1));
            }
            return fits;
        }

        int number(int place, int digits) {
            int number = 0;
            for (int i = 0; i < digits; i++) {
                number = number * 10 + letterAt(place + i) - '0';
            }
            return number;
        }

        int letterAt(int place) {
            return place >= 0 && place < length && place < text.length ? text[place] : NONE;
        }
    }
}
