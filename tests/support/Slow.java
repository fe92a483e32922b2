import java.util.ArrayDeque;
import java.util.ArrayList;
import java.util.Deque;
import java.util.List;
import java.util.function.Consumer;
import java.util.function.IntPredicate;
import java.util.regex.Matcher;
import java.util.regex.Pattern;

/**
 * The document once more, written apart from the class and without a thought of speed or room: whole
 * copies of a world, all hours, all choices. RandomRunsTest compares both.
 */
final class Slow {

    static final class Yard {
        int kind;
        int figure;
        int frost = 40;

        Yard() {
        }

        Yard(Yard other) {
            kind = other.kind;
            figure = other.figure;
            frost = other.frost;
        }

        int freezes(int k, int cold) {
            return switch (k) {
                case 0 -> cold;
                case 1 -> freezes(0, cold) / 2;
                case 2 -> freezes(0, cold);
                case 3 -> freezes(0, cold) + figure;
                case 4 -> Math.max(0, freezes(3, cold) - 2);
                default -> freezes(2, cold);
            };
        }

        int melts(int k, int noon) {
            return switch (k) {
                case 0 -> noon;
                case 1 -> melts(0, noon) * 2;
                case 2 -> Math.max(0, melts(0, noon) - figure / 2);
                case 3 -> melts(0, noon);
                case 4 -> melts(3, noon) + 1;
                default -> melts(2, noon) / 2;
            };
        }

        int wants(int k, int weight) {
            return switch (k) {
                case 0 -> weight;
                case 1 -> wants(0, weight) + wants(0, weight) / 2;
                case 2 -> wants(0, weight) + figure;
                case 3 -> wants(0, weight) / 2;
                case 4 -> wants(3, weight);
                default -> wants(2, weight);
            };
        }

        boolean bears(int weight) {
            return frost >= wants(kind, weight);
        }
    }

    static final class Train {
        int weight;
        int warmth;
        int pace;
        int at = -1;
        int waits;
        int how;
        int when = -9;
        int stood;

        Train(int weight, int warmth, int pace) {
            this.weight = weight;
            this.warmth = warmth;
            this.pace = pace;
        }

        Train(Train other) {
            this(other.weight, other.warmth, other.pace);
            at = other.at;
            waits = other.waits;
            how = other.how;
        }

        boolean ahead() {
            return how == 0 && at < 0;
        }
    }

    static final class World {
        int many = 8;
        int hour;
        int cold = 3;
        int noon = 4;
        int gone;
        List<Yard> yards = new ArrayList<>();
        List<Train> trains = new ArrayList<>();

        World() {
            for (int i = 0; i < 16; i++) {
                yards.add(new Yard());
            }
        }

        World(World other) {
            many = other.many;
            hour = other.hour;
            cold = other.cold;
            noon = other.noon;
            for (Yard yard : other.yards) {
                yards.add(new Yard(yard));
            }
            for (Train train : other.trains) {
                trains.add(new Train(train));
            }
        }

        List<Yard> there() {
            return yards.subList(0, many);
        }

        World after(int hours) {
            for (int i = 0; i < hours; i++) {
                anHour();
            }
            return this;
        }

        void anHour() {
            gone++;
            int clock = hour % 24;
            for (Yard yard : there()) {
                if (clock < 6 || clock > 17) {
                    yard.frost += yard.freezes(yard.kind, cold);
                } else if (clock > 9 && clock < 16) {
                    yard.frost -= yard.melts(yard.kind, noon);
                }
                yard.frost = Math.min(99, Math.max(0, yard.frost));
            }
            for (Train train : trains) {
                int was = train.at;
                train.stood = 0;
                if (train.how == 0 && train.waits > 0) {
                    train.waits--;
                } else if (train.how == 0) {
                    go(train);
                    train.stood = train.how == 0 && train.at == was ? 1 : 0;
                }
            }
            for (Train train : trains) {
                if (train.how == 0 && train.at >= 0) {
                    Yard under = yards.get(train.at);
                    if (under.frost < under.wants(under.kind, train.weight) / 2) {
                        train.how = 2;
                        train.when = gone;
                    }
                }
            }
            hour++;
        }

        void go(Train train) {
            for (int left = train.pace; left > 0; left--) {
                int next = train.at + 1;
                if (next == many) {
                    train.how = 1;
                    train.when = gone;
                    return;
                }
                Yard yard = yards.get(next);
                boolean taken = yard.kind != 3 && yard.kind != 4
                        && trains.stream().anyMatch(t -> t != train && t.how == 0 && t.at == next);
                if (!yard.bears(train.weight) || taken) {
                    return;
                }
                train.at = next;
                yard.frost = Math.max(0, yard.frost - train.warmth);
            }
        }

        int howMany(int how) {
            return (int) trains.stream().filter(t -> t.how == how).count();
        }

        int allFrost() {
            return there().stream().mapToInt(y -> y.frost).sum();
        }

        int leastFrost() {
            return there().stream().mapToInt(y -> y.frost).min().orElseThrow();
        }

        int first(IntPredicate such) {
            for (int i = 0; i < many; i++) {
                if (such.test(i)) {
                    return i;
                }
            }
            return -9;
        }

        void pour(int yard) {
            yards.get(yard).frost = Math.min(99, yards.get(yard).frost + 10);
        }
    }

    World now = new World();
    World image;
    Deque<World> past = new ArrayDeque<>();
    StringBuilder letters = new StringBuilder();
    List<Integer> row = new ArrayList<>();
    int[] refused = new int[7];

    private int no(int number) {
        refused[-number]++;
        return number;
    }

    private World mind() {
        return new World(now);
    }

    private World mind(Consumer<World> change) {
        World world = mind();
        change.accept(world);
        return world;
    }

    private void keep() {
        past.push(mind());
        if (past.size() > 8) {
            past.removeLast();
        }
    }

    private boolean noYard(int yard) {
        return yard < 0 || yard >= now.many;
    }

    private boolean noTrain(int train) {
        return train < 0 || train >= now.trains.size();
    }

    private Train t(int train) {
        return now.trains.get(train);
    }

    /** Behind how many hours the train is through; 0 if it is now; -9. */
    private int when(int train, Consumer<World> change) {
        Train after = mind(change).after(72).trains.get(train);
        return after.how != 1 ? -9 : Math.max(0, after.when);
    }

    private int through(Consumer<World> change) {
        return mind(change).after(72).howMany(1);
    }

    int feed(int letter) {
        if (letter < 0) {
            return no(-4);
        }
        if (letter > 255 || letters.length() == 96) {
            return no(-6);
        }
        letters.append((char) letter);
        return letters.length();
    }

    private static final String[] FORMS = {"ndd;", "ydddddd;", "tdddd;", "wddd;", "cdd;", "hdd;"};

    private static int goodPrefix(String text, int from) {
        int best = -1;
        for (String form : FORMS) {
            int fits = 0;
            while (fits < form.length() && from + fits < text.length()) {
                char due = form.charAt(fits);
                char is = text.charAt(from + fits);
                if (due == 'd' ? is < '0' || is > '9' : is != due) {
                    break;
                }
                fits++;
            }
            best = Math.max(best, fits);
        }
        return best;
    }

    int line() {
        String text = letters.toString();
        letters.setLength(0);
        Matcher matcher = Pattern.compile("n\\d\\d;|y\\d{6};|t\\d{4};|w\\d{3};|[ch]\\d\\d;").matcher(text);
        List<String> statements = new ArrayList<>();
        int place = 0;
        while (matcher.find(place) && matcher.start() == place) {
            statements.add(matcher.group());
            place = matcher.end();
        }
        if (statements.isEmpty() || place < text.length()) {
            return -1000 - place - Math.max(0, goodPrefix(text, place));
        }
        World world = mind();
        place = 0;
        for (String statement : statements) {
            if (!comes(world, statement)) {
                return -2000 - place;
            }
            place += statement.length();
        }
        now = world;
        past.clear();
        return statements.size();
    }

    private static boolean comes(World world, String s) {
        int two = Integer.parseInt(s.substring(1, 3));
        switch (s.charAt(0)) {
            case 'n' -> {
                if (two < 2 || two > 16 || world.trains.stream().anyMatch(t -> t.how == 0 && t.at >= two)) {
                    return false;
                }
                world.many = two;
            }
            case 'y' -> {
                if (two >= world.many || s.charAt(3) > '5') {
                    return false;
                }
                Yard yard = world.yards.get(two);
                yard.kind = s.charAt(3) - '0';
                yard.figure = s.charAt(4) - '0';
                yard.frost = Integer.parseInt(s.substring(5, 7));
            }
            case 't' -> {
                int pace = s.charAt(4) - '0';
                if (two < 1 || two > 60 || pace < 1 || pace > 3 || world.trains.size() == 5) {
                    return false;
                }
                world.trains.add(new Train(two, s.charAt(3) - '0', pace));
            }
            case 'w' -> {
                int train = s.charAt(1) - '0';
                int waits = Integer.parseInt(s.substring(2, 4));
                if (train >= world.trains.size() || waits > 48 || world.trains.get(train).how != 0) {
                    return false;
                }
                world.trains.get(train).waits = waits;
            }
            case 'c' -> {
                world.cold = s.charAt(1) - '0';
                world.noon = s.charAt(2) - '0';
            }
            default -> {
                if (two < 1 || two > 72 || world.hour + two > 999) {
                    return false;
                }
                world.after(two);
            }
        }
        return true;
    }

    int yard(int yard, int what) {
        if (noYard(yard)) {
            return no(-1);
        }
        Yard y = now.yards.get(yard);
        return switch (what) {
            case 0 -> y.kind;
            case 1 -> y.figure;
            case 2 -> y.frost;
            case 3 -> y.freezes(y.kind, now.cold);
            case 4 -> y.melts(y.kind, now.noon);
            case 5 -> y.wants(y.kind, 20);
            default -> no(-2);
        };
    }

    int turn(int yard, int kind, int figure) {
        if (noYard(yard)) {
            return no(-1);
        }
        if (kind < 0 || kind > 5) {
            return no(-2);
        }
        if (figure < 0 || figure > 9) {
            return no(figure < 0 ? -4 : -6);
        }
        keep();
        Yard y = now.yards.get(yard);
        int was = y.kind * 10 + y.figure;
        y.kind = kind;
        y.figure = figure;
        return was;
    }

    int frost(int yard, int v) {
        if (noYard(yard)) {
            return no(-1);
        }
        if (v < 0 || v > 99) {
            return no(v < 0 ? -4 : -6);
        }
        keep();
        int was = now.yards.get(yard).frost;
        now.yards.get(yard).frost = v;
        return was;
    }

    int weather(int what, int v) {
        if (what < 0 || what > 1) {
            return no(-2);
        }
        if (v < 0 || v > 9) {
            return no(v < 0 ? -4 : -6);
        }
        keep();
        int was = what == 0 ? now.cold : now.noon;
        now.cold = what == 0 ? v : now.cold;
        now.noon = what == 1 ? v : now.noon;
        return was;
    }

    int many(int n) {
        if (n < 2 || n > 16) {
            return no(n < 2 ? -4 : -6);
        }
        if (now.trains.stream().anyMatch(t -> t.how == 0 && t.at >= n)) {
            return no(-3);
        }
        past.clear();
        int was = now.many;
        now.many = n;
        return was;
    }

    int train(int weight, int warmth, int pace) {
        if (weight < 1 || warmth < 0 || pace < 1) {
            return no(-4);
        }
        if (weight > 60 || warmth > 9 || pace > 3 || now.trains.size() == 5) {
            return no(-6);
        }
        past.clear();
        now.trains.add(new Train(weight, warmth, pace));
        return now.trains.size() - 1;
    }

    int told(int train, int what) {
        if (noTrain(train)) {
            return no(-1);
        }
        return switch (what) {
            case 0 -> t(train).weight;
            case 1 -> t(train).warmth;
            case 2 -> t(train).pace;
            case 3 -> t(train).at;
            case 4 -> t(train).waits;
            case 5 -> t(train).how;
            default -> no(-2);
        };
    }

    int waits(int train, int v) {
        if (noTrain(train)) {
            return no(-1);
        }
        if (v < 0 || v > 48) {
            return no(v < 0 ? -4 : -6);
        }
        if (t(train).how != 0) {
            return no(-3);
        }
        keep();
        int was = t(train).waits;
        t(train).waits = v;
        return was;
    }

    int hours(int n) {
        if (n < 1) {
            return no(-4);
        }
        if (n > 72 || now.hour + n > 999) {
            return no(-6);
        }
        keep();
        int before = now.howMany(1);
        now.after(n);
        return now.howMany(1) - before;
    }

    int back() {
        if (past.isEmpty()) {
            return no(-3);
        }
        now = past.pop();
        return past.size();
    }

    private int wrongN(int n) {
        return n < 0 ? -4 : n > 72 ? -6 : 0;
    }

    int frostIn(int yard, int n) {
        if (noYard(yard)) {
            return no(-1);
        }
        return wrongN(n) != 0 ? no(wrongN(n)) : mind().after(n).yards.get(yard).frost;
    }

    int trainIn(int train, int n, int what) {
        if (noTrain(train)) {
            return no(-1);
        }
        if (wrongN(n) != 0) {
            return no(wrongN(n));
        }
        if (what < 0 || what > 2) {
            return no(-2);
        }
        Train after = mind().after(n).trains.get(train);
        return what == 0 ? after.how : what == 1 ? after.at : after.when;
    }

    int through(int n, int what) {
        if (wrongN(n) != 0) {
            return no(wrongN(n));
        }
        return what < 0 || what > 1 ? no(-2) : mind().after(n).howMany(what + 1);
    }

    int thin(int n, int weight) {
        if (n < 0 || weight < 1) {
            return no(-4);
        }
        if (n > 72 || weight > 60) {
            return no(-6);
        }
        World after = mind().after(n);
        return after.first(i -> !after.yards.get(i).bears(weight));
    }

    private int wrongWeight(int weight) {
        return weight < 1 ? -4 : weight > 60 ? -6 : 0;
    }

    int lasts(int yard, int weight) {
        if (noYard(yard)) {
            return no(-1);
        }
        if (wrongWeight(weight) != 0) {
            return no(wrongWeight(weight));
        }
        for (int n = 0; n <= 72; n++) {
            if (!mind().after(n).yards.get(yard).bears(weight)) {
                return n;
            }
        }
        return -9;
    }

    int lowest(int n, int what) {
        if (wrongN(n) != 0) {
            return no(wrongN(n));
        }
        if (what < 0 || what > 1) {
            return no(-2);
        }
        World after = mind().after(n);
        int least = after.leastFrost();
        return what == 0 ? least : after.first(i -> after.yards.get(i).frost == least);
    }

    int last(int train) {
        if (noTrain(train)) {
            return no(-1);
        }
        if (!t(train).ahead()) {
            return no(-3);
        }
        int last = -9;
        for (int wait = 0; wait <= 48; wait++) {
            int w = wait;
            last = when(train, m -> m.trains.get(train).waits = w) >= 0 ? wait : last;
        }
        return last;
    }

    int bestWait(int train, int what) {
        if (noTrain(train)) {
            return no(-1);
        }
        if (what < 0 || what > 1) {
            return no(-2);
        }
        if (!t(train).ahead()) {
            return no(-3);
        }
        for (int hours = 1; hours <= 72; hours++) {
            for (int wait = 0; wait <= 48; wait++) {
                int w = wait;
                if (when(train, m -> m.trains.get(train).waits = w) == hours) {
                    return what == 0 ? wait : hours;
                }
            }
        }
        return -9;
    }

    int heaviest(int train, int what) {
        if (noTrain(train)) {
            return no(-1);
        }
        if (what < 0 || what > 2) {
            return no(-2);
        }
        if (!t(train).ahead()) {
            return no(-3);
        }
        int best = -9;
        int soonest = 99;
        for (int i = 0; i <= 60; i++) {
            int v = i;
            if (what == 0 && i > 0 && when(train, m -> m.trains.get(train).weight = v) >= 0) {
                best = i;
            }
            if (what == 1 && i < 10 && when(train, m -> m.trains.get(train).warmth = v) >= 0) {
                best = i;
            }
            if (what == 2 && i > 0 && i < 4) {
                int when = when(train, m -> m.trains.get(train).pace = v);
                if (when >= 0 && when < soonest) {
                    soonest = when;
                    best = i;
                }
            }
        }
        return best;
    }

    /** The first whose change makes most be through, more than without. */
    private int most(int choices, IntPredicate may, java.util.function.BiConsumer<World, Integer> change) {
        int most = through(m -> { });
        int best = -9;
        for (int i = 0; i < choices; i++) {
            int choice = i;
            if (may.test(i) && through(m -> change.accept(m, choice)) > most) {
                most = through(m -> change.accept(m, choice));
                best = i;
            }
        }
        return best;
    }

    int pourFirst() {
        return most(now.many, i -> true, World::pour);
    }

    int pourFewest(int train) {
        if (noTrain(train)) {
            return no(-1);
        }
        if (t(train).how != 0) {
            return no(-3);
        }
        for (int size = 0; size <= 3; size++) {
            for (int bits = 0; bits < 1 << now.many; bits++) {
                int poured = bits;
                if (Integer.bitCount(bits) == size && when(train, m -> pourAll(m, poured)) >= 0) {
                    return bits;
                }
            }
        }
        return -9;
    }

    private static void pourAll(World world, int bits) {
        for (int i = 0; i < world.many; i++) {
            if ((bits & 1 << i) != 0) {
                world.pour(i);
            }
        }
    }

    int strongest(int weight) {
        if (wrongWeight(weight) != 0) {
            return no(wrongWeight(weight));
        }
        World world = mind();
        for (int poured = 0; poured <= 20; poured++) {
            if (world.there().stream().allMatch(y -> y.bears(weight))) {
                return poured;
            }
            int least = world.leastFrost();
            world.pour(world.first(i -> world.yards.get(i).frost == least));
        }
        return -9;
    }

    private int most;
    private int order;

    int order(int what) {
        if (what < 0 || what > 1) {
            return no(-2);
        }
        List<Integer> ahead = new ArrayList<>();
        for (int i = 0; i < now.trains.size(); i++) {
            if (t(i).ahead()) {
                ahead.add(i);
            }
        }
        if (ahead.size() > 4) {
            return no(-3);
        }
        most = -1;
        order = -9;
        orders(ahead, new ArrayList<>());
        return what == 1 ? most : ahead.isEmpty() ? -9 : order;
    }

    private void orders(List<Integer> ahead, List<Integer> chosen) {
        if (chosen.size() == ahead.size()) {
            World world = mind();
            StringBuilder digits = new StringBuilder("0");
            for (int i = 0; i < chosen.size(); i++) {
                world.trains.set(ahead.get(i), new Train(t(chosen.get(i))));
                digits.append(chosen.get(i));
            }
            int through = world.after(72).howMany(1);
            if (through > most) {
                most = through;
                order = Integer.parseInt(digits.toString());
            }
            return;
        }
        for (Integer train : ahead) {
            if (!chosen.contains(train)) {
                List<Integer> more = new ArrayList<>(chosen);
                more.add(train);
                orders(ahead, more);
            }
        }
    }

    int timetable(int one, int other) {
        if (noTrain(one) || noTrain(other) || one == other) {
            return no(-1);
        }
        if (!t(one).ahead() || !t(other).ahead()) {
            return no(-3);
        }
        int soonest = 999;
        int best = -9;
        for (int i = 0; i < 25; i++) {
            int a = i / 5 * 6;
            int b = i % 5 * 6;
            World world = mind();
            world.trains.get(one).waits = a;
            world.trains.get(other).waits = b;
            world.after(72);
            Train first = world.trains.get(one);
            Train second = world.trains.get(other);
            int later = Math.max(first.when, second.when);
            if (a != b && first.how == 1 && second.how == 1 && later < soonest) {
                soonest = later;
                best = a * 100 + b;
            }
        }
        return best;
    }

    int said() {
        int bits = 0;
        for (int warmth = 0; warmth < 10; warmth++) {
            int w = warmth;
            bits |= row.stream().allMatch(v -> v == 99 || v == w) ? 1 << warmth : 0;
        }
        return bits;
    }

    int lies() {
        int known = row.stream().filter(v -> v != 99).findFirst().orElse(99);
        for (int i = 0; i < row.size(); i++) {
            if (row.get(i) != 99 && row.get(i) != known) {
                return i;
            }
        }
        return -9;
    }

    int tells() {
        int[] beside = new int[now.many];
        int least = 999;
        for (int i = 0; i < now.many; i++) {
            int sum = 0;
            int count = 0;
            for (int j = i - 1; j <= i + 1; j += 2) {
                if (!noYard(j)) {
                    sum += now.yards.get(j).frost;
                    count++;
                }
            }
            beside[i] = now.yards.get(i).frost - sum / count;
            least = Math.min(least, beside[i]);
        }
        int wanted = least;
        return now.first(i -> beside[i] == wanted);
    }

    private int nearest(int from) {
        for (int steps = 0; steps < 20; steps++) {
            for (int at = from - steps; at <= from + steps; at += Math.max(1, 2 * steps)) {
                if (!noYard(at) && now.yards.get(at).kind == 4) {
                    return at;
                }
            }
        }
        return -9;
    }

    int near(int yard) {
        if (noYard(yard)) {
            return no(-1);
        }
        return nearest(yard) < 0 ? -9 : Math.abs(nearest(yard) - yard);
    }

    int rescue(int train) {
        if (noTrain(train)) {
            return no(-1);
        }
        return t(train).at < 0 || t(train).how == 1 ? no(-3) : nearest(t(train).at);
    }

    int march(int what) {
        if (what < 0 || what > 2) {
            return no(-2);
        }
        int m = Math.min(5, now.many);
        int[][] left = new int[m][m];
        for (int i = 0; i < m; i++) {
            for (int j = 0; j < m; j++) {
                World world = mind();
                if (i != j) {
                    world.pour(i);
                    world.yards.get(j).frost = Math.max(0, world.yards.get(j).frost - 10);
                }
                left[i][j] = world.yards.subList(0, m).stream().mapToInt(y -> y.frost).min().orElseThrow();
            }
        }
        int gang = -1;
        int yard = -1;
        int held = 100;
        for (int i = 0; i < m; i++) {
            int worst = 100;
            int best = -1;
            for (int j = 0; j < m; j++) {
                worst = Math.min(worst, left[i][j]);
                best = Math.max(best, left[j][i]);
            }
            if (worst > gang) {
                gang = worst;
                yard = i;
            }
            held = Math.min(held, best);
        }
        return what == 0 ? gang : what == 1 ? yard : held;
    }

    private boolean throughAt(int train, int noon) {
        return when(train, m -> m.noon = noon) >= 0;
    }

    long noons(int train, int part) {
        if (noTrain(train)) {
            return 4000000000000000000L - no(-1);
        }
        if (part < 0 || part > 1) {
            return 4000000000000000000L - no(-2);
        }
        int above = 0;
        for (int noon = 0; noon <= 9; noon++) {
            above += throughAt(train, noon) ? 1 : 0;
        }
        int common = java.math.BigInteger.valueOf(above).gcd(java.math.BigInteger.TEN).intValue();
        return (part == 0 ? above : 10) / common;
    }

    int thaw() {
        for (int n = 0; n <= 72; n++) {
            if (mind().after(n).there().stream().noneMatch(y -> y.bears(1))) {
                return n;
            }
        }
        return -9;
    }

    int noon(int train) {
        if (noTrain(train)) {
            return no(-1);
        }
        int greatest = -9;
        for (int noon = 0; noon <= 9; noon++) {
            greatest = throughAt(train, noon) ? noon : greatest;
        }
        return greatest;
    }

    int needed(int yard, int train) {
        if (noYard(yard) || noTrain(train)) {
            return no(-1);
        }
        for (int frost = 0; frost <= 99; frost++) {
            int v = frost;
            if (when(train, m -> m.yards.get(yard).frost = v) >= 0) {
                return frost;
            }
        }
        return -9;
    }

    int key() {
        return most(now.many, i -> true, (m, i) -> {
            m.yards.get(i).kind = 0;
            m.yards.get(i).figure = 0;
        });
    }

    int blocker() {
        List<Train> after = mind().after(72).trains;
        for (int freed = after.size(); freed > 0; freed--) {
            for (int i = 0; i < after.size(); i++) {
                int away = i;
                long before = after.stream().filter(t -> t != after.get(away) && t.how == 1).count();
                if (t(i).how == 0 && freed > before && freed == through(m -> m.trains.remove(away))) {
                    return i;
                }
            }
        }
        return -9;
    }

    int mean(int n, int what) {
        if (wrongN(n) != 0) {
            return no(wrongN(n));
        }
        if (what < 0 || what > 1) {
            return no(-2);
        }
        World after = mind().after(n);
        int most = after.there().stream().mapToInt(y -> y.frost).max().orElseThrow();
        return what == 0 ? after.allFrost() / after.many : most - after.leastFrost();
    }

    int runs(int weight, int what) {
        if (wrongWeight(weight) != 0) {
            return no(wrongWeight(weight));
        }
        if (what < 0 || what > 1) {
            return no(-2);
        }
        for (int length = now.many; length > 0; length--) {
            for (int from = 0; from + length <= now.many; from++) {
                if (now.yards.subList(from, from + length).stream().allMatch(y -> y.bears(weight))) {
                    return what == 0 ? length : from;
                }
            }
        }
        return what == 0 ? 0 : -9;
    }

    int day() {
        return mind(m -> m.trains.clear()).after(24).allFrost() - now.allFrost();
    }

    int stands(int train) {
        if (noTrain(train)) {
            return no(-1);
        }
        World world = mind();
        int stood = 0;
        for (int n = 0; n < 72; n++) {
            stood += world.after(1).trains.get(train).stood;
        }
        return stood;
    }

    int row(int v) {
        if (v < 0) {
            return no(-4);
        }
        if (v > 99 || row.size() == 16) {
            return no(-6);
        }
        row.add(v);
        return row.size();
    }

    int judge(int n) {
        if (wrongN(n) != 0) {
            return no(wrongN(n));
        }
        World after = mind().after(n);
        int answer = -9;
        for (int i = row.size() - 1; i >= 0; i--) {
            answer = i < now.many && after.yards.get(i).frost == row.get(i) ? answer : i;
        }
        row.clear();
        return answer;
    }

    int clear() {
        int had = row.size();
        row.clear();
        return had;
    }

    int lots(int n, int z, int what) {
        if (n < 1 || n > 20) {
            return no(n < 1 ? -4 : -6);
        }
        if (what < 0 || what > 1) {
            return no(-2);
        }
        int all = 0;
        int seed = z;
        for (int i = 0; i < n; i++) {
            World world = mind();
            seed = (int) (seed * 1103515245L + 12345L);
            world.cold = ((seed & Integer.MAX_VALUE) >> 16) % 10;
            seed = (int) (seed * 1103515245L + 12345L);
            world.noon = ((seed & Integer.MAX_VALUE) >> 16) % 10;
            all += world.after(48).howMany(what + 1);
        }
        return all;
    }

    int image() {
        image = mind();
        return now.hour;
    }

    int restore() {
        if (image == null) {
            return no(-3);
        }
        now = new World(image);
        past.clear();
        return now.hour;
    }

    int count(int what) {
        return switch (what) {
            case 0 -> now.many;
            case 1 -> now.trains.size();
            case 2 -> now.hour;
            case 3 -> now.cold;
            case 4 -> now.noon;
            case 5 -> now.allFrost();
            case 6 -> letters.length();
            case 7 -> row.size();
            case 8 -> past.size();
            case 11, 12, 13, 14, 15, 16 -> refused[what - 10];
            default -> -9;
        };
    }
}
