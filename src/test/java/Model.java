import java.util.ArrayList;
import java.util.Iterator;
import java.util.List;
import java.util.Random;
import java.util.regex.Matcher;
import java.util.regex.Pattern;

/**
 * The document once more, written apart from the program and with the whole library, so that
 * long runs of calls can be compared. Plain and slow on purpose.
 */
public final class Model {
    private static final int[][] RANGES = {
        {2, 11, 8}, {0, 9, 1}, {1, 20, 4}, {1, 9, 3}, {0, 9, 1}, {0, 9, 2}, {0, 11, 3}, {1, 2, 1}};
    private static final String STATEMENT = "s[0-9]=[0-9][0-9]?;|c[0-9]{8};|k[0-9]{3};";

    private static final class Person {
        int number;
        int kind;
        int figure;
        int minute;
        int wants;
        int patience;
        String where = "to come";
        int served = -9;

        Person copy() {
            Person p = new Person();
            p.number = number;
            p.kind = kind;
            p.figure = figure;
            p.minute = minute;
            p.wants = wants;
            p.patience = patience;
            p.where = where;
            p.served = served;
            return p;
        }

        int waited() {
            return where.equals("served") ? served - minute : where.equals("gone") ? patience : 0;
        }
    }

    private static final class Pot {
        int level;
        int warmth;
        int age;
        int till;
        Person by;
    }

    private static final class World {
        int[] settings = new int[8];
        List<Person> people = new ArrayList<>();
        List<Person> line = new ArrayList<>();
        List<Pot> pots = new ArrayList<>(List.of(new Pot()));
        int minute;
        int puts;

        World copy() {
            World w = new World();
            w.settings = settings.clone();
            w.minute = minute;
            for (Person p : people) {
                w.people.add(p.copy());
            }
            for (Person p : line) {
                w.line.add(w.people.get(p.number));
            }
            w.pots.clear();
            for (Pot pot : pots) {
                Pot other = new Pot();
                other.level = pot.level;
                other.warmth = pot.warmth;
                other.age = pot.age;
                other.till = pot.till;
                other.by = pot.by == null ? null : w.people.get(pot.by.number);
                w.pots.add(other);
            }
            return w;
        }

        void anew() {
            minute = 0;
            puts = 0;
            line.clear();
            pots.clear();
            for (int i = 0; i < settings[7]; i++) {
                pots.add(new Pot());
            }
            for (Person p : people) {
                p.where = "to come";
                p.served = -9;
            }
        }

        int refusal(int setting, int v) {
            if (setting < 0 || setting > 7) {
                return -1;
            }
            if (v < RANGES[setting][0]) {
                return -4;
            }
            if (v > RANGES[setting][1]) {
                return -6;
            }
            if (setting == 0 && pots.stream().anyMatch(pot -> pot.level > v)) {
                return -3;
            }
            return setting == 7 && minute > 0 && v != pots.size() ? -3 : 0;
        }

        void set(int setting, int v) {
            settings[setting] = v;
            while (pots.size() > settings[7]) {
                pots.remove(pots.size() - 1);
            }
            while (pots.size() < settings[7]) {
                pots.add(new Pot());
            }
        }

        boolean over() {
            return minute == 180 || people.stream().noneMatch(p -> p.where.equals("to come") || p.where.equals("line"))
                    && pots.stream().allMatch(pot -> minute >= pot.till);
        }

        int sum(String where, int last) {
            return people.stream().filter(p -> p.where.equals(where) && p.minute <= last).mapToInt(p -> p.wants).sum();
        }

        int upTo(Person p, int kind) {
            int n = p.wants;
            if (kind == 0) {
                n = p.wants + 1;
            } else if (kind == 2) {
                n = settings[0];
            } else if (kind == 3) {
                n = sum("line", 1000);
            } else if (kind == 4) {
                n = sum("line", 1000) + sum("to come", minute + p.figure);
            } else if (kind == 5) {
                n = settings[6];
            } else if (kind == 6) {
                n = p.figure;
            }
            if (n < p.wants) {
                n = p.wants;
            }
            return n > settings[0] ? settings[0] : n;
        }

        void minute() {
            for (Person p : people) {
                if (p.where.equals("to come") && p.minute == minute) {
                    p.where = "line";
                    line.add(p);
                }
            }
            for (Iterator<Person> it = line.iterator(); it.hasNext();) {
                Person p = it.next();
                if (p.minute + p.patience < minute) {
                    p.where = "gone";
                    it.remove();
                }
            }
            for (Person p : new ArrayList<>(line)) {
                turn(p);
            }
            for (Pot pot : pots) {
                if (pot.till <= minute && pot.level != 0) {
                    pot.age += 1;
                    if (pot.age >= settings[3]) {
                        pot.age = 0;
                        pot.warmth -= pot.warmth == 0 ? 0 : 1;
                    }
                }
            }
            minute++;
        }

        void turn(Person p) {
            for (Pot pot : pots) {
                if (pot.till <= minute && pot.warmth > 7 && pot.level >= p.wants) {
                    pot.level -= p.wants;
                    p.where = "served";
                    p.served = minute;
                    line.remove(p);
                    return;
                }
            }
            for (Pot pot : pots) {
                if (pot.by == p && pot.till > minute) {
                    return;
                }
            }
            for (Pot pot : pots) {
                if (pot.till <= minute) {
                    puts++;
                    int n = upTo(p, p.kind);
                    pot.till = minute;
                    if (pot.level < n) {
                        pot.warmth = pot.level * pot.warmth / n;
                        pot.level = n;
                        pot.till += settings[1];
                    }
                    int work = pot.level * (10 - pot.warmth) * settings[2];
                    pot.till += work == 0 ? 1 : work / 100 + (work % 100 == 0 ? 0 : 1);
                    pot.warmth = 10;
                    pot.age = 0;
                    pot.by = p;
                    return;
                }
            }
        }

        World ran() {
            while (!over()) {
                minute();
            }
            return this;
        }

        int with(String where) {
            return (int) people.stream().filter(p -> p.where.equals(where)).count();
        }

        int waited() {
            return people.stream().mapToInt(Person::waited).sum();
        }

        int left() {
            return pots.stream().mapToInt(pot -> pot.level).sum();
        }

        int cost() {
            return waited() * settings[4] + left() * settings[5] + 9 * with("gone");
        }

        World fresh() {
            World w = copy();
            w.anew();
            return w;
        }

        int costFresh() {
            return fresh().ran().cost();
        }
    }

    private World world = new World();
    private World image;
    private StringBuilder letters = new StringBuilder();
    private List<Integer> row = new ArrayList<>();
    private final int[] refusals = new int[7];

    public Model() {
        for (int i = 0; i < 8; i++) {
            world.settings[i] = RANGES[i][2];
        }
    }

    private int no(int code) {
        refusals[-code]++;
        return code;
    }

    private boolean some(int comer) {
        return comer >= 0 && comer < world.people.size();
    }

    public int feed(int letter) {
        if (letter < 0) {
            return no(-4);
        }
        if (letter > 255 || letters.length() == 96) {
            return no(-6);
        }
        return letters.append((char) letter).length();
    }

    public int office() {
        String text = letters.toString();
        letters = new StringBuilder();
        Pattern whole = Pattern.compile("(?:" + STATEMENT + ")+", Pattern.DOTALL);
        for (int i = 1; i <= text.length(); i++) {
            Matcher m = whole.matcher(text.substring(0, i));
            if (!m.matches() && !m.hitEnd()) {
                return -1000 - (i - 1);
            }
        }
        if (!whole.matcher(text).matches()) {
            return -1000 - text.length();
        }
        World trial = world.copy();
        int place = 0;
        int n = 0;
        for (String s : text.split(";")) {
            if (!comes(trial, s)) {
                return -2000 - place;
            }
            place += s.length() + 1;
            n++;
        }
        world = trial;
        return n;
    }

    private static boolean comes(World w, String s) {
        if (s.startsWith("s")) {
            int setting = Integer.parseInt(s.substring(1, 2));
            int v = Integer.parseInt(s.substring(3));
            if (w.refusal(setting, v) != 0) {
                return false;
            }
            w.set(setting, v);
            return true;
        }
        int[] d = s.substring(1).chars().map(c -> c - '0').toArray();
        if (s.startsWith("k")) {
            if (d[0] >= w.people.size() || d[1] > 6) {
                return false;
            }
            w.people.get(d[0]).kind = d[1];
            w.people.get(d[0]).figure = d[2];
            return true;
        }
        Person p = new Person();
        p.number = w.people.size();
        p.kind = d[0];
        p.figure = d[1];
        p.minute = Integer.parseInt(s.substring(3, 6));
        p.wants = d[5];
        p.patience = Integer.parseInt(s.substring(7));
        if (p.number > 7 || p.kind > 6 || p.minute > 119 || p.minute < w.minute || p.wants == 0 || p.wants > 3
                || p.patience > 30) {
            return false;
        }
        w.people.add(p);
        return true;
    }

    public int comer(int comer, int what) {
        if (!some(comer)) {
            return no(-1);
        }
        Person p = world.people.get(comer);
        switch (what) {
            case 0: return p.kind;
            case 1: return p.figure;
            case 2: return p.minute;
            case 3: return p.wants;
            case 4: return p.patience;
            case 5: return List.of("to come", "line", "served", "gone").indexOf(p.where);
            case 6: return p.waited();
            case 7: return world.upTo(p, p.kind);
            default: return no(-2);
        }
    }

    public int kind(int comer, int kind, int figure) {
        if (!some(comer)) {
            return no(-1);
        }
        if (kind < 0 || kind > 6) {
            return no(-2);
        }
        if (figure < 0 || figure > 9) {
            return no(figure < 0 ? -4 : -6);
        }
        Person p = world.people.get(comer);
        int had = p.kind * 10 + p.figure;
        p.kind = kind;
        p.figure = figure;
        return had;
    }

    public int kettle(int kettle, int what) {
        if (kettle < 0 || kettle >= world.pots.size()) {
            return no(-1);
        }
        Pot pot = world.pots.get(kettle);
        switch (what) {
            case 0: return pot.level;
            case 1: return pot.warmth;
            case 2: return pot.age;
            case 3: return pot.till > world.minute ? pot.till - world.minute : 0;
            default: return no(-2);
        }
    }

    public int set(int setting, int v) {
        int refusal = world.refusal(setting, v);
        if (refusal != 0) {
            return no(refusal);
        }
        int was = world.settings[setting];
        world.set(setting, v);
        return was;
    }

    public int go(int n) {
        if (n < 1 || n > 60) {
            return no(n < 1 ? -4 : -6);
        }
        if (world.over()) {
            return no(-3);
        }
        int till = world.minute + n;
        while (world.minute < till && !world.over()) {
            world.minute();
        }
        return world.minute;
    }

    public int anew() {
        int was = world.minute;
        world.anew();
        return was;
    }

    public int line(int i) {
        if (i < 0) {
            return no(-4);
        }
        return i < world.line.size() ? world.line.get(i).number : -9;
    }

    public int rest(int what) {
        if (what < 0 || what > 4) {
            return no(-2);
        }
        World w = world.copy().ran();
        return List.of(w.waited(), w.with("gone"), w.puts, w.left(), w.cost()).get(what);
    }

    public int when(int comer) {
        return some(comer) ? world.copy().ran().people.get(comer).served : no(-1);
    }

    private static int selfish(World base, int comer) {
        int[] loss = new int[7];
        for (int k = 0; k < 7; k++) {
            World w = base.fresh();
            w.people.get(comer).kind = k;
            Person p = w.ran().people.get(comer);
            loss[k] = p.where.equals("served") ? p.served - p.minute : 99;
        }
        return firstLeast(loss);
    }

    private static int firstLeast(int[] values) {
        int at = 0;
        for (int i = values.length - 1; i >= 0; i--) {
            if (values[i] <= values[at]) {
                at = i;
            }
        }
        return at;
    }

    public int best(int comer, int what) {
        if (!some(comer)) {
            return no(-1);
        }
        if (what < 0 || what > 1) {
            return no(-2);
        }
        if (what == 0) {
            return selfish(world, comer);
        }
        int[] costs = new int[7];
        for (int k = 0; k < 7; k++) {
            World w = world.copy();
            w.people.get(comer).kind = k;
            costs[k] = w.costFresh();
        }
        return firstLeast(costs);
    }

    public int rounds(int what) {
        if (what < 0 || what > 3) {
            return 1000000000 - no(-2);
        }
        World w = world.copy();
        int rounds = 0;
        boolean changed = true;
        while (changed && rounds < 20) {
            changed = false;
            rounds++;
            for (Person p : w.people) {
                int k = selfish(w, p.number);
                changed |= k != p.kind;
                p.kind = k;
            }
        }
        if (what == 0) {
            return rounds;
        }
        if (what == 1) {
            StringBuilder digits = new StringBuilder("0");
            for (Person p : w.people) {
                digits.insert(1, p.kind);
            }
            return Integer.parseInt(digits.toString());
        }
        int cost = w.costFresh();
        int least = Integer.MAX_VALUE;
        for (int k = 0; k < 7; k++) {
            World all = world.copy();
            for (Person p : all.people) {
                p.kind = k;
            }
            least = Math.min(least, all.costFresh());
        }
        return what == 2 ? cost : cost - least;
    }

    public int marks(int what) {
        if (what < 0 || what > 1) {
            return no(-2);
        }
        int[] costs = new int[world.settings[0] + 1];
        for (int m = 0; m < costs.length; m++) {
            World w = world.copy();
            w.settings[6] = m;
            costs[m] = w.costFresh();
        }
        int at = firstLeast(costs);
        return what == 0 ? at : costs[at];
    }

    public int second() {
        World one = world.copy();
        World two = world.copy();
        one.settings[7] = 1;
        two.settings[7] = 2;
        return one.costFresh() - two.costFresh();
    }

    private List<Person> byMinute() {
        List<Person> sorted = new ArrayList<>(world.people);
        sorted.sort((a, b) -> a.minute != b.minute ? a.minute - b.minute : a.number - b.number);
        return sorted;
    }

    public int urn(int v) {
        if (v < 0 || v > 99) {
            return no(v < 0 ? -4 : -6);
        }
        List<Person> sorted = byMinute();
        int hours = 0;
        if (!sorted.isEmpty()) {
            int span = sorted.get(sorted.size() - 1).minute - sorted.get(0).minute;
            hours = span <= 60 ? 1 : 2;
        }
        return hours * v < world.costFresh() ? 1 : 0;
    }

    public int least(int what) {
        if (what < 0 || what > 1) {
            return no(-2);
        }
        if (world.people.stream().anyMatch(p -> p.wants > world.settings[0])) {
            return no(-3);
        }
        int[] best = {Integer.MAX_VALUE, 0};
        boil(byMinute(), 0, 0, 0, 0, best);
        return best[what];
    }

    private void boil(List<Person> sorted, int from, int end, int cost, int bits, int[] best) {
        if (from == sorted.size()) {
            if (cost < best[0] || cost == best[0] && bits < best[1]) {
                best[0] = cost;
                best[1] = bits;
            }
            return;
        }
        int cups = 0;
        for (int to = from; to < sorted.size(); to++) {
            cups += sorted.get(to).wants;
            if (cups > world.settings[0]) {
                return;
            }
            int begin = Math.max(end, sorted.get(to).minute);
            int heat = -Math.floorDiv(-cups * 10 * world.settings[2], 100);
            int done = begin + world.settings[1] + Math.max(heat, 1);
            int waited = sorted.subList(from, to + 1).stream().mapToInt(p -> done - p.minute).sum();
            boil(sorted, to + 1, done, cost + waited * world.settings[4] + 3, bits | 1 << to, best);
        }
    }

    private int ferried(int n, int w) {
        List<Person> there = new ArrayList<>();
        int waited = 0;
        int last = 0;
        for (Person p : byMinute()) {
            there.add(p);
            last = p.minute;
            if (there.size() == n) {
                for (Person q : there) {
                    waited += last - q.minute;
                }
                there.clear();
            }
        }
        for (Person q : there) {
            waited += last + w - q.minute;
        }
        return waited;
    }

    private int timed(int w) {
        int waited = 0;
        for (int t = 0; t < 200; t++) {
            for (Person p : world.people) {
                int next = 0;
                while (next < p.minute) {
                    next += w;
                }
                waited += t >= p.minute && t < next ? 1 : 0;
            }
        }
        return waited;
    }

    public int ferry(int n, int w) {
        if (n < 1 || w < 0) {
            return no(-4);
        }
        return n > 8 || w > 60 ? no(-6) : ferried(n, w);
    }

    public int times(int w) {
        if (w < 1 || w > 60) {
            return no(w < 1 ? -4 : -6);
        }
        return timed(w);
    }

    public int better(int w) {
        if (w < 1 || w > 60) {
            return no(w < 1 ? -4 : -6);
        }
        int[] less = new int[8];
        for (int n = 1; n <= 8; n++) {
            less[n - 1] = ferried(n, w) - timed(w);
        }
        int at = firstLeast(less);
        return less[at] < 0 ? at + 1 : -9;
    }

    public int follow() {
        int[] costs = new int[world.people.size()];
        for (int i = 0; i < costs.length; i++) {
            World w = world.copy();
            for (Person p : w.people) {
                p.kind = world.people.get(i).kind;
                p.figure = world.people.get(i).figure;
            }
            costs[i] = w.costFresh();
        }
        return costs.length == 0 ? -9 : firstLeast(costs);
    }

    public int row(int v) {
        if (v < 0) {
            return no(-4);
        }
        if (v > 99 || row.size() == 12) {
            return no(-6);
        }
        row.add(v);
        return row.size();
    }

    public int judge() {
        World w = world.copy();
        int answer = -9;
        for (int i = 0; i < row.size() && answer == -9; i++) {
            if (!w.over()) {
                w.minute();
            }
            answer = w.pots.get(0).level == row.get(i) ? -9 : i;
        }
        row = new ArrayList<>();
        return answer;
    }

    public int fits(int cups) {
        if (cups < 0 || cups > 11) {
            return no(cups < 0 ? -4 : -6);
        }
        int bits = 0;
        if (!world.line.isEmpty()) {
            for (int k = 6; k >= 0; k--) {
                bits = bits * 2 + (world.upTo(world.line.get(0), k) == cups ? 1 : 0);
            }
        }
        return bits;
    }

    public int seeds(int n, int z, int what) {
        if (n < 1 || n > 20) {
            return no(n < 1 ? -4 : -6);
        }
        if (what < 0 || what > 1) {
            return no(-2);
        }
        int cost = 0;
        int gone = 0;
        long state = z;
        for (int i = 0; i < n; i++) {
            World w = world.fresh();
            for (Person p : w.people) {
                state = (int) (state * 1103515245L + 12345L);
                p.minute = (int) ((state & 0x7fffffffL) >> 16) % 120;
            }
            w.ran();
            cost += w.cost();
            gone += w.with("gone");
        }
        return what == 0 ? cost : gone;
    }

    public int image() {
        image = world.copy();
        return world.minute;
    }

    public int restore() {
        if (image == null) {
            return no(-3);
        }
        world = image.copy();
        return world.minute;
    }

    public int count(int what) {
        if (what >= 11 && what <= 16) {
            return refusals[what - 10];
        }
        if (what >= 20 && what <= 27) {
            return world.settings[what - 20];
        }
        List<Integer> counts = List.of(world.people.size(), world.minute, world.line.size(), world.with("served"),
                world.with("gone"), world.over() ? 1 : 0, world.waited(), letters.length(), row.size());
        return what >= 0 && what < 9 ? counts.get(what) : -9;
    }

    /** Comers at random who stand in each other's way. */
    static String crowd(Random random) {
        StringBuilder text = new StringBuilder(random.nextBoolean() ? "s7=2;" : "");
        text.append(random.nextBoolean() ? "s0=" + (2 + random.nextInt(8)) + ";" : "");
        for (int n = 2 + random.nextInt(7); n > 0; n--) {
            text.append(String.format("c%d%d%03d%d%02d;", random.nextInt(7), random.nextInt(10), random.nextInt(20),
                    1 + random.nextInt(3), random.nextInt(31)));
        }
        return text.toString();
    }

    /** The letters of an office at random, now and then with something wrong in them. */
    static String someOffice(Random random, int minute) {
        StringBuilder text = new StringBuilder();
        int n = 1 + random.nextInt(4);
        for (int i = 0; i < n; i++) {
            int which = random.nextInt(8);
            if (which < 5) {
                int comes = Math.min(119, minute + random.nextInt(random.nextBoolean() ? 12 : 100));
                text.append(String.format("c%d%d%03d%d%02d;", random.nextInt(7), random.nextInt(10), comes,
                        1 + random.nextInt(3), random.nextInt(random.nextBoolean() ? 31 : 8)));
            } else if (which == 5) {
                text.append(String.format("k%d%d%d;", random.nextInt(8), random.nextInt(7), random.nextInt(10)));
            } else {
                int setting = random.nextInt(8);
                int[] range = RANGES[setting];
                int v = range[0] + random.nextInt(range[1] - range[0] + 1);
                text.append(String.format(random.nextBoolean() ? "s%d=%d;" : "s%d=%02d;", setting, v));
            }
        }
        int spoilt = random.nextInt(6);
        if (spoilt == 0) {
            text.setCharAt(random.nextInt(text.length()), "0123456789=;sck"
                    .charAt(random.nextInt(15)));
        } else if (spoilt == 1) {
            text.deleteCharAt(random.nextInt(text.length()));
        }
        return text.toString();
    }
}
