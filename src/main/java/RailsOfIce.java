/**
 * Rails of ice: a line of yards that freezes by night and creeps at noon, and the trains that go
 * over it. The promises that the numbers beside the methods name stand in shared/DOC.md.
 */
public final class RailsOfIce {

    private static final int NOBODY = -1;
    private static final int OTHER = -2;
    private static final int STATE = -3;
    private static final int BELOW = -4;
    private static final int ROOM = -6;
    private static final int NOTHING = -9;
    private static final long REFUSED_LONG = 4000000000000000000L;

    private static final int YARD = 0;
    private static final int BRIDGE = 1;
    private static final int CURVE = 2;
    private static final int SIDING = 3;
    private static final int HALT = 4;
    private static final int SHADE = 5;

    private static final int ON_ITS_WAY = 0;
    private static final int THROUGH = 1;
    private static final int IN_THE_LAKE = 2;
    /** Only in mind: a train that was taken away. */
    private static final int AWAY = 3;
    private static final int AHEAD = -1;

    private static final int LEAST_YARDS = 2;
    private static final int MOST_YARDS = 16;
    private static final int MOST_FIGURE = 9;
    private static final int MOST_FROST = 99;
    private static final int MOST_WEATHER = 9;
    private static final int MOST_TRAINS = 5;
    private static final int MOST_WEIGHT = 60;
    private static final int MOST_WARMTH = 9;
    private static final int MOST_PACE = 3;
    private static final int MOST_WAITS = 48;
    private static final int MOST_HOURS = 72;
    private static final int LAST_HOUR = 999;
    private static final int MOST_LETTERS = 96;
    /** The shortest statement has four letters. */
    private static final int MOST_STATEMENTS = MOST_LETTERS / 4;
    private static final int MOST_LETTER = 255;
    private static final int MOST_ROW = 16;
    private static final int UNKNOWN = 99;
    private static final int POURED = 10;
    private static final int MOST_POURED = 3;
    private static final int MOST_POURINGS = 20;
    private static final int MOST_ORDERED = 4;
    private static final int MOST_ORDERS = 24;
    private static final int LAST_TIMETABLED = 24;
    private static final int TIMETABLE_STEP = 6;
    private static final int MARCH_YARDS = 5;
    private static final int MOST_WINTERS = 20;
    private static final int WINTER_HOURS = 48;
    private static final int MOST_BACK = 8;
    private static final int FAULT_OF_LETTERS = -1000;
    private static final int FAULT_OF_SENSE = -2000;

    private final Line now = new Line();
    /** All that is asked "in mind" is tried here; it is made once, as calls shall make no objects. */
    private final Line mind = new Line();
    private final Line image = new Line();
    private boolean imageTaken = false;
    private final Past past = new Past();
    private final Letters letters = new Letters();
    private final int[] row = new int[MOST_ROW];
    private int rowLength = 0;
    private final int[] refusals = new int[7];
    /** The trains ahead of the line, in the order that order() tries. */
    private final int[] queue = new int[MOST_TRAINS];
    /** The numbers that these trains change among themselves, rising. */
    private final int[] places = new int[MOST_TRAINS];

    /** Promise 1. */
    public RailsOfIce() {
    }

    // ---- the line told in letters

    /** Promise 2. */
    public int feed(int letter) {
        int wrong = outside(letter, 0, MOST_LETTER);
        if (wrong != 0) {
            return refuse(wrong);
        }
        if (letters.length >= MOST_LETTERS) {
            return refuse(ROOM);
        }
        letters.add(letter);
        return letters.length;
    }

    /** Promise 3. */
    public int line() {
        int broken = letters.brokenAt();
        int answer = broken >= 0 ? FAULT_OF_LETTERS - broken : tellLine();
        letters.length = 0;
        return answer;
    }

    /** Lets all statements come in mind first, so that nothing comes with a fault. */
    private int tellLine() {
        mind.become(now);
        int statements = 0;
        int place = 0;
        while (place < letters.length && statements < MOST_STATEMENTS) {
            if (!tellStatement(place)) {
                return FAULT_OF_SENSE - place;
            }
            place += letters.lengthAt(place);
            statements++;
        }
        now.become(mind);
        past.forget();
        return statements;
    }

    private boolean tellStatement(int place) {
        int first = letters.number(place + 1, 2);
        switch (letters.letterAt(place)) {
            case 'n':
                return mind.becomeMany(first);
            case 'y':
                return mind.becomeYard(first, letters.number(place + 3, 1),
                        letters.number(place + 4, 1), letters.number(place + 5, 2));
            case 't':
                return mind.addTrain(first, letters.number(place + 3, 1),
                        letters.number(place + 4, 1));
            case 'w':
                return mind.letWait(letters.number(place + 1, 1), letters.number(place + 2, 2));
            case 'c':
                mind.cold = letters.number(place + 1, 1);
                mind.noon = letters.number(place + 2, 1);
                return true;
            case 'h':
                if (outside(first, 1, MOST_HOURS) != 0 || mind.hour + first > LAST_HOUR) {
                    return false;
                }
                mind.go(first);
                return true;
            default:
                return false;
        }
    }

    // ---- yards, weather, trains

    /** Promise 4. */
    public int yard(int yard, int what) {
        if (noYard(yard)) {
            return refuse(NOBODY);
        }
        switch (what) {
            case 0:
                return now.kind[yard];
            case 1:
                return now.figure[yard];
            case 2:
                return now.frost[yard];
            case 3:
                return Kinds.freezes(now.kind[yard], now.figure[yard], now.cold);
            case 4:
                return Kinds.melts(now.kind[yard], now.figure[yard], now.noon);
            case 5:
                return Kinds.wants(now.kind[yard], now.figure[yard], 20);
            default:
                return refuse(OTHER);
        }
    }

    /** Promise 5. */
    public int turn(int yard, int kind, int figure) {
        if (noYard(yard)) {
            return refuse(NOBODY);
        }
        if (kind < YARD || kind > SHADE) {
            return refuse(OTHER);
        }
        int wrong = outside(figure, 0, MOST_FIGURE);
        if (wrong != 0) {
            return refuse(wrong);
        }
        past.keep(now);
        int was = 10 * now.kind[yard] + now.figure[yard];
        now.kind[yard] = kind;
        now.figure[yard] = figure;
        return was;
    }

    /** Promise 6. */
    public int frost(int yard, int v) {
        if (noYard(yard)) {
            return refuse(NOBODY);
        }
        int wrong = outside(v, 0, MOST_FROST);
        if (wrong != 0) {
            return refuse(wrong);
        }
        past.keep(now);
        int was = now.frost[yard];
        now.frost[yard] = v;
        return was;
    }

    /** Promise 7. */
    public int weather(int what, int v) {
        if (neither(what)) {
            return refuse(OTHER);
        }
        int wrong = outside(v, 0, MOST_WEATHER);
        if (wrong != 0) {
            return refuse(wrong);
        }
        past.keep(now);
        int was = what == 0 ? now.cold : now.noon;
        if (what == 0) {
            now.cold = v;
        } else {
            now.noon = v;
        }
        return was;
    }

    /** Promise 8. */
    public int many(int n) {
        int wrong = outside(n, LEAST_YARDS, MOST_YARDS);
        if (wrong != 0) {
            return refuse(wrong);
        }
        int was = now.many;
        if (!now.becomeMany(n)) {
            return refuse(STATE);
        }
        past.forget();
        return was;
    }

    /** Promise 9. */
    public int train(int weight, int warmth, int pace) {
        if (weight < 1 || warmth < 0 || pace < 1) {
            return refuse(BELOW);
        }
        if (!now.addTrain(weight, warmth, pace)) {
            return refuse(ROOM);
        }
        past.forget();
        return now.trains - 1;
    }

    /** Promise 10. */
    public int told(int train, int what) {
        if (noTrain(train)) {
            return refuse(NOBODY);
        }
        switch (what) {
            case 0:
                return now.weight[train];
            case 1:
                return now.warmth[train];
            case 2:
                return now.pace[train];
            case 3:
                return now.at[train];
            case 4:
                return now.waits[train];
            case 5:
                return now.how[train];
            default:
                return refuse(OTHER);
        }
    }

    /** Promise 11. */
    public int waits(int train, int v) {
        if (noTrain(train)) {
            return refuse(NOBODY);
        }
        int wrong = outside(v, 0, MOST_WAITS);
        if (wrong != 0) {
            return refuse(wrong);
        }
        if (now.how[train] != ON_ITS_WAY) {
            return refuse(STATE);
        }
        past.keep(now);
        int was = now.waits[train];
        now.waits[train] = v;
        return was;
    }

    /** Promise 12. */
    public int hours(int n) {
        int wrong = outside(n, 1, MOST_HOURS);
        if (wrong != 0) {
            return refuse(wrong);
        }
        if (now.hour + n > LAST_HOUR) {
            return refuse(ROOM);
        }
        past.keep(now);
        int before = now.howMany(THROUGH);
        now.go(n);
        return now.howMany(THROUGH) - before;
    }

    /** Promise 13. */
    public int back() {
        if (past.length == 0) {
            return refuse(STATE);
        }
        past.takeBack(now);
        return past.length;
    }

    // ---- behind n hours

    /** Promise 14. */
    public int frostIn(int yard, int n) {
        if (noYard(yard)) {
            return refuse(NOBODY);
        }
        int wrong = outside(n, 0, MOST_HOURS);
        if (wrong != 0) {
            return refuse(wrong);
        }
        goInMind(n);
        return mind.frost[yard];
    }

    /** Promise 15. */
    public int trainIn(int train, int n, int what) {
        if (noTrain(train)) {
            return refuse(NOBODY);
        }
        int wrong = outside(n, 0, MOST_HOURS);
        if (wrong != 0) {
            return refuse(wrong);
        }
        if (what < 0 || what > 2) {
            return refuse(OTHER);
        }
        goInMind(n);
        if (what == 0) {
            return mind.how[train];
        }
        return what == 1 ? mind.at[train] : mind.ended[train];
    }

    /** Promise 16. */
    public int through(int n, int what) {
        int wrong = outside(n, 0, MOST_HOURS);
        if (wrong != 0) {
            return refuse(wrong);
        }
        if (neither(what)) {
            return refuse(OTHER);
        }
        goInMind(n);
        return mind.howMany(what == 0 ? THROUGH : IN_THE_LAKE);
    }

    /** Promise 17. */
    public int thin(int n, int weight) {
        if (n < 0 || weight < 1) {
            return refuse(BELOW);
        }
        if (n > MOST_HOURS || weight > MOST_WEIGHT) {
            return refuse(ROOM);
        }
        goInMind(n);
        for (int yard = 0; yard < mind.many; yard++) {
            if (!mind.bears(yard, weight)) {
                return yard;
            }
        }
        return NOTHING;
    }

    /** Promise 18. */
    public int lasts(int yard, int weight) {
        if (noYard(yard)) {
            return refuse(NOBODY);
        }
        int wrong = outside(weight, 1, MOST_WEIGHT);
        if (wrong != 0) {
            return refuse(wrong);
        }
        mind.become(now);
        mind.feelWeather();
        for (int n = 0; n <= MOST_HOURS; n++) {
            if (!mind.bears(yard, weight)) {
                return n;
            }
            mind.passHour();
        }
        return NOTHING;
    }

    /** Promise 19. */
    public int lowest(int n, int what) {
        int wrong = outside(n, 0, MOST_HOURS);
        if (wrong != 0) {
            return refuse(wrong);
        }
        if (neither(what)) {
            return refuse(OTHER);
        }
        goInMind(n);
        int where = mind.weakest();
        return what == 0 ? mind.frost[where] : where;
    }

    // ---- a train ahead of the line

    /** Promise 20. */
    public int last(int train) {
        int wrong = notAhead(train);
        if (wrong != 0) {
            return refuse(wrong);
        }
        for (int wait = MOST_WAITS; wait >= 0; wait--) {
            mind.become(now);
            mind.waits[train] = wait;
            if (getsThrough(train)) {
                return wait;
            }
        }
        return NOTHING;
    }

    /** Promise 21. */
    public int bestWait(int train, int what) {
        if (noTrain(train)) {
            return refuse(NOBODY);
        }
        if (neither(what)) {
            return refuse(OTHER);
        }
        int wrong = notAhead(train);
        if (wrong != 0) {
            return refuse(wrong);
        }
        int best = NOTHING;
        int soonest = NOTHING;
        for (int wait = 0; wait <= MOST_WAITS; wait++) {
            mind.become(now);
            mind.waits[train] = wait;
            if (getsThrough(train) && (best == NOTHING || mind.ended[train] < soonest)) {
                best = wait;
                soonest = mind.ended[train];
            }
        }
        return what == 0 ? best : soonest;
    }

    /** Promise 22. */
    public int heaviest(int train, int what) {
        if (noTrain(train)) {
            return refuse(NOBODY);
        }
        if (what < 0 || what > 2) {
            return refuse(OTHER);
        }
        int wrong = notAhead(train);
        if (wrong != 0) {
            return refuse(wrong);
        }
        if (what == 0) {
            return greatestWeight(train);
        }
        return what == 1 ? greatestWarmth(train) : soonestPace(train);
    }

    private int greatestWeight(int train) {
        for (int weight = MOST_WEIGHT; weight >= 1; weight--) {
            mind.become(now);
            mind.weight[train] = weight;
            if (getsThrough(train)) {
                return weight;
            }
        }
        return NOTHING;
    }

    private int greatestWarmth(int train) {
        for (int warmth = MOST_WARMTH; warmth >= 0; warmth--) {
            mind.become(now);
            mind.warmth[train] = warmth;
            if (getsThrough(train)) {
                return warmth;
            }
        }
        return NOTHING;
    }

    private int soonestPace(int train) {
        int best = NOTHING;
        int soonest = NOTHING;
        for (int pace = 1; pace <= MOST_PACE; pace++) {
            mind.become(now);
            mind.pace[train] = pace;
            if (getsThrough(train) && (best == NOTHING || mind.ended[train] < soonest)) {
                best = pace;
                soonest = mind.ended[train];
            }
        }
        return best;
    }

    // ---- pouring

    /** Promise 23. */
    public int pourFirst() {
        mind.become(now);
        int most = throughInMind();
        int best = NOTHING;
        for (int yard = 0; yard < now.many; yard++) {
            mind.become(now);
            mind.pour(yard);
            int through = throughInMind();
            if (through > most) {
                most = through;
                best = yard;
            }
        }
        return best;
    }

    /** Promise 24. */
    public int pourFewest(int train) {
        if (noTrain(train)) {
            return refuse(NOBODY);
        }
        if (now.how[train] != ON_ITS_WAY) {
            return refuse(STATE);
        }
        for (int size = 0; size <= MOST_POURED; size++) {
            for (int bits = 0; bits < 1 << now.many; bits++) {
                if (Integer.bitCount(bits) == size && pouredGetsThrough(bits, train)) {
                    return bits;
                }
            }
        }
        return NOTHING;
    }

    private boolean pouredGetsThrough(int bits, int train) {
        mind.become(now);
        for (int yard = 0; yard < now.many; yard++) {
            if ((bits >> yard & 1) == 1) {
                // Nothing can be poured here: fewer yards do the same and were tried before.
                if (now.frost[yard] >= MOST_FROST) {
                    return false;
                }
                mind.pour(yard);
            }
        }
        return getsThrough(train);
    }

    /** Promise 25. */
    public int strongest(int weight) {
        int wrong = outside(weight, 1, MOST_WEIGHT);
        if (wrong != 0) {
            return refuse(wrong);
        }
        mind.become(now);
        for (int pourings = 0; pourings <= MOST_POURINGS; pourings++) {
            if (mind.allBear(weight)) {
                return pourings;
            }
            mind.pour(mind.weakest());
        }
        return NOTHING;
    }

    // ---- in which order, by which timetable

    /** Promise 26. */
    public int order(int what) {
        if (neither(what)) {
            return refuse(OTHER);
        }
        int ahead = lineUp();
        if (ahead > MOST_ORDERED) {
            return refuse(STATE);
        }
        int most = NOTHING;
        int best = NOTHING;
        for (int tried = 0; tried < MOST_ORDERS; tried++) {
            takeQueue(ahead);
            int through = throughInMind();
            if (through > most) {
                most = through;
                best = queueDigits(ahead);
            }
            if (!nextQueue(ahead)) {
                break;
            }
        }
        return what == 0 ? best : most;
    }

    /** Lines up the trains that are ahead of the line, by their numbers: how many. */
    private int lineUp() {
        int ahead = 0;
        for (int train = 0; train < now.trains; train++) {
            if (now.isAhead(train)) {
                places[ahead] = train;
                queue[ahead] = train;
                ahead++;
            }
        }
        return ahead;
    }

    private void takeQueue(int ahead) {
        mind.become(now);
        for (int i = 0; i < ahead; i++) {
            mind.takeTrain(places[i], now, queue[i]);
        }
    }

    private int queueDigits(int ahead) {
        if (ahead == 0) {
            return NOTHING;
        }
        int digits = 0;
        for (int i = 0; i < ahead; i++) {
            digits = 10 * digits + queue[i];
        }
        return digits;
    }

    /** The next order of the queue, as a dictionary has them; false behind the last. */
    private boolean nextQueue(int ahead) {
        int rise = ahead - 2;
        while (rise >= 0 && queue[rise] > queue[rise + 1]) {
            rise--;
        }
        if (rise < 0) {
            return false;
        }
        int other = ahead - 1;
        while (other > rise && queue[other] < queue[rise]) {
            other--;
        }
        swapQueue(rise, other);
        int left = rise + 1;
        int right = ahead - 1;
        while (left < right) {
            swapQueue(left, right);
            left++;
            right--;
        }
        return true;
    }

    private void swapQueue(int one, int other) {
        int kept = queue[one];
        queue[one] = queue[other];
        queue[other] = kept;
    }

    /** Promise 27. */
    public int timetable(int one, int other) {
        if (noTrain(one) || noTrain(other) || one == other) {
            return refuse(NOBODY);
        }
        if (!now.isAhead(one) || !now.isAhead(other)) {
            return refuse(STATE);
        }
        int best = NOTHING;
        int soonest = NOTHING;
        for (int first = 0; first <= LAST_TIMETABLED; first += TIMETABLE_STEP) {
            for (int second = 0; second <= LAST_TIMETABLED; second += TIMETABLE_STEP) {
                int later = first == second ? NOTHING : laterOf(one, first, other, second);
                if (later != NOTHING && (best == NOTHING || later < soonest)) {
                    best = 100 * first + second;
                    soonest = later;
                }
            }
        }
        return best;
    }

    /** Behind how many hours both are through if they wait so long. */
    private int laterOf(int one, int first, int other, int second) {
        mind.become(now);
        mind.waits[one] = first;
        mind.waits[other] = second;
        if (!getsThrough(one)) {
            return NOTHING;
        }
        mind.goWhileOnItsWay(other, MOST_HOURS - mind.passed);
        if (mind.how[other] != THROUGH) {
            return NOTHING;
        }
        return Math.max(mind.ended[one], mind.ended[other]);
    }

    // ---- what was said, what tells, what is near

    /** Promise 28. */
    public int said() {
        int bits = 0;
        for (int warmth = 0; warmth <= MOST_WARMTH; warmth++) {
            if (canBeSaid(warmth)) {
                bits |= 1 << warmth;
            }
        }
        return bits;
    }

    private boolean canBeSaid(int warmth) {
        for (int i = 0; i < rowLength; i++) {
            if (row[i] != UNKNOWN && row[i] != warmth) {
                return false;
            }
        }
        return true;
    }

    /** Promise 29. */
    public int lies() {
        int known = UNKNOWN;
        for (int i = 0; i < rowLength; i++) {
            if (known == UNKNOWN) {
                known = row[i];
            } else if (row[i] != UNKNOWN && row[i] != known) {
                return i;
            }
        }
        return NOTHING;
    }

    /** Promise 30. */
    public int tells() {
        int best = 0;
        int least = now.besideNeighbours(0);
        for (int yard = 1; yard < now.many; yard++) {
            int beside = now.besideNeighbours(yard);
            if (beside < least) {
                least = beside;
                best = yard;
            }
        }
        return best;
    }

    /** Promise 31. */
    public int near(int yard) {
        if (noYard(yard)) {
            return refuse(NOBODY);
        }
        int halt = now.nearestHalt(yard);
        return halt == NOTHING ? NOTHING : Math.abs(halt - yard);
    }

    /** Promise 32. */
    public int rescue(int train) {
        if (noTrain(train)) {
            return refuse(NOBODY);
        }
        if (now.at[train] == AHEAD || now.how[train] == THROUGH) {
            return refuse(STATE);
        }
        return now.nearestHalt(now.at[train]);
    }

    // ---- a game with March, odds, the thaw

    /** Promise 33. */
    public int march(int what) {
        if (what < 0 || what > 2) {
            return refuse(OTHER);
        }
        if (what == 2) {
            return sureOfMarch();
        }
        int best = 0;
        int most = surePouring(0);
        for (int yard = 1; yard < marchYards(); yard++) {
            int sure = surePouring(yard);
            if (sure > most) {
                most = sure;
                best = yard;
            }
        }
        return what == 0 ? most : best;
    }

    private int marchYards() {
        return Math.min(MARCH_YARDS, now.many);
    }

    private int surePouring(int poured) {
        int least = MOST_FROST;
        for (int taken = 0; taken < marchYards(); taken++) {
            least = Math.min(least, leastAfter(poured, taken));
        }
        return least;
    }

    private int sureOfMarch() {
        int held = MOST_FROST;
        for (int taken = 0; taken < marchYards(); taken++) {
            int most = 0;
            for (int poured = 0; poured < marchYards(); poured++) {
                most = Math.max(most, leastAfter(poured, taken));
            }
            held = Math.min(held, most);
        }
        return held;
    }

    /** The least frost of the yards of the game, one poured on, from one taken. */
    private int leastAfter(int poured, int taken) {
        int least = MOST_FROST;
        for (int yard = 0; yard < marchYards(); yard++) {
            int frost = now.frost[yard];
            if (yard == poured && poured != taken) {
                frost = Math.min(MOST_FROST, frost + POURED);
            }
            if (yard == taken && poured != taken) {
                frost = Math.max(0, frost - POURED);
            }
            least = Math.min(least, frost);
        }
        return least;
    }

    /** Promise 34. */
    public long noons(int train, int part) {
        if (noTrain(train)) {
            return REFUSED_LONG - refuse(NOBODY);
        }
        if (neither(part)) {
            return REFUSED_LONG - refuse(OTHER);
        }
        int above = 0;
        int below = 0;
        for (int noon = 0; noon <= MOST_WEATHER; noon++) {
            below++;
            if (getsThroughAtNoon(train, noon)) {
                above++;
            }
        }
        int common = commonDivisor(above, below);
        return part == 0 ? above / common : below / common;
    }

    private boolean getsThroughAtNoon(int train, int noon) {
        mind.become(now);
        mind.noon = noon;
        return getsThrough(train);
    }

    private static int commonDivisor(int above, int below) {
        for (int divisor = below; divisor > 1; divisor--) {
            if (above % divisor == 0 && below % divisor == 0) {
                return divisor;
            }
        }
        return 1;
    }

    /** Promise 35. */
    public int thaw() {
        mind.become(now);
        mind.feelWeather();
        for (int n = 0; n <= MOST_HOURS; n++) {
            if (mind.noneBears(1)) {
                return n;
            }
            mind.passHour();
        }
        return NOTHING;
    }

    /** Promise 36. */
    public int noon(int train) {
        if (noTrain(train)) {
            return refuse(NOBODY);
        }
        for (int noon = MOST_WEATHER; noon >= 0; noon--) {
            if (getsThroughAtNoon(train, noon)) {
                return noon;
            }
        }
        return NOTHING;
    }

    /** Promise 37. */
    public int needed(int yard, int train) {
        if (noYard(yard) || noTrain(train)) {
            return refuse(NOBODY);
        }
        for (int frost = 0; frost <= MOST_FROST; frost++) {
            mind.become(now);
            mind.frost[yard] = frost;
            if (getsThrough(train)) {
                return frost;
            }
        }
        return NOTHING;
    }

    /** Promise 38. */
    public int key() {
        mind.become(now);
        int most = throughInMind();
        int best = NOTHING;
        for (int yard = 0; yard < now.many; yard++) {
            mind.become(now);
            mind.kind[yard] = YARD;
            mind.figure[yard] = 0;
            int through = throughInMind();
            if (through > most) {
                most = through;
                best = yard;
            }
        }
        return best;
    }

    /** Promise 39. */
    public int blocker() {
        int most = NOTHING;
        int best = NOTHING;
        for (int train = 0; train < now.trains; train++) {
            if (now.how[train] == ON_ITS_WAY) {
                int others = othersThroughNow(train);
                int freed = othersThroughWithout(train);
                if (freed > others && freed > most) {
                    most = freed;
                    best = train;
                }
            }
        }
        return best;
    }

    /** How many others are through behind 72 hours as things stand. */
    private int othersThroughNow(int train) {
        mind.become(now);
        int all = throughInMind();
        return mind.how[train] == THROUGH ? all - 1 : all;
    }

    private int othersThroughWithout(int train) {
        mind.become(now);
        mind.how[train] = AWAY;
        return throughInMind();
    }

    // ---- figures of the whole line

    /** Promise 40. */
    public int mean(int n, int what) {
        int wrong = outside(n, 0, MOST_HOURS);
        if (wrong != 0) {
            return refuse(wrong);
        }
        if (neither(what)) {
            return refuse(OTHER);
        }
        goInMind(n);
        if (what == 1) {
            return mind.greatestFrost() - mind.frost[mind.weakest()];
        }
        return mind.allFrost() / Math.max(1, mind.many);
    }

    /** Promise 41. */
    public int runs(int weight, int what) {
        int wrong = outside(weight, 1, MOST_WEIGHT);
        if (wrong != 0) {
            return refuse(wrong);
        }
        if (neither(what)) {
            return refuse(OTHER);
        }
        int most = 0;
        int first = NOTHING;
        int run = 0;
        for (int yard = 0; yard < now.many; yard++) {
            run = now.bears(yard, weight) ? run + 1 : 0;
            if (run > most) {
                most = run;
                first = yard + 1 - run;
            }
        }
        return what == 0 ? most : first;
    }

    /** Promise 42. */
    public int day() {
        mind.become(now);
        mind.trains = 0;
        mind.go(24);
        return mind.allFrost() - now.allFrost();
    }

    /** Promise 43. */
    public int stands(int train) {
        if (noTrain(train)) {
            return refuse(NOBODY);
        }
        mind.become(now);
        mind.feelWeather();
        int stood = 0;
        for (int n = 0; n < MOST_HOURS && mind.how[train] == ON_ITS_WAY; n++) {
            boolean waited = mind.waits[train] > 0;
            int at = mind.at[train];
            mind.passHour();
            // It stood also if it is in the lake now: it sinks at the end of the hour only.
            if (!waited && mind.how[train] != THROUGH && mind.at[train] == at) {
                stood++;
            }
        }
        return stood;
    }

    // ---- the row

    /** Promise 44. */
    public int row(int v) {
        int wrong = outside(v, 0, MOST_FROST);
        if (wrong != 0) {
            return refuse(wrong);
        }
        if (rowLength >= MOST_ROW) {
            return refuse(ROOM);
        }
        row[rowLength] = v;
        rowLength++;
        return rowLength;
    }

    /** Promise 45. */
    public int judge(int n) {
        int wrong = outside(n, 0, MOST_HOURS);
        if (wrong != 0) {
            return refuse(wrong);
        }
        goInMind(n);
        int answer = NOTHING;
        for (int i = 0; i < rowLength && answer == NOTHING; i++) {
            if (i >= mind.many || mind.frost[i] != row[i]) {
                answer = i;
            }
        }
        rowLength = 0;
        return answer;
    }

    /** Promise 46. */
    public int clear() {
        int had = rowLength;
        rowLength = 0;
        return had;
    }

    // ---- winters by lot, the image, counts

    /** Promise 47. */
    public int lots(int n, int z, int what) {
        int wrong = outside(n, 1, MOST_WINTERS);
        if (wrong != 0) {
            return refuse(wrong);
        }
        if (neither(what)) {
            return refuse(OTHER);
        }
        int seed = z;
        int all = 0;
        for (int winter = 0; winter < n; winter++) {
            mind.become(now);
            seed = nextSeed(seed);
            mind.cold = drawn(seed, 10);
            seed = nextSeed(seed);
            mind.noon = drawn(seed, 10);
            mind.goWhileAnyGoes(WINTER_HOURS);
            all += mind.howMany(what == 0 ? THROUGH : IN_THE_LAKE);
        }
        return all;
    }

    private static int nextSeed(int z) {
        return z * 1103515245 + 12345;
    }

    private static int drawn(int z, int below) {
        return (z & 0x7fffffff) / 65536 % Math.max(1, below);
    }

    /** Promise 48. */
    public int image() {
        image.become(now);
        imageTaken = true;
        return now.hour;
    }

    /** Promise 49. */
    public int restore() {
        if (!imageTaken) {
            return refuse(STATE);
        }
        now.become(image);
        past.forget();
        return now.hour;
    }

    /** Promise 50. */
    public int count(int what) {
        if (what >= 11 && what <= 16) {
            return refusals[what - 10];
        }
        switch (what) {
            case 0:
                return now.many;
            case 1:
                return now.trains;
            case 2:
                return now.hour;
            case 3:
                return now.cold;
            case 4:
                return now.noon;
            case 5:
                return now.allFrost();
            case 6:
                return letters.length;
            case 7:
                return rowLength;
            case 8:
                return past.length;
            default:
                return NOTHING;
        }
    }

    // ---- what many calls need

    private int refuse(int number) {
        if (number <= NOBODY && number >= ROOM) {
            refusals[-number]++;
        }
        return number;
    }

    /** 0 if v is taken. */
    private static int outside(int v, int least, int greatest) {
        if (v < least) {
            return BELOW;
        }
        return v > greatest ? ROOM : 0;
    }

    private static boolean neither(int what) {
        return what != 0 && what != 1;
    }

    private boolean noYard(int yard) {
        return yard < 0 || yard >= now.many;
    }

    private boolean noTrain(int train) {
        return train < 0 || train >= now.trains;
    }

    /** 0 for a train that is ahead of the line. */
    private int notAhead(int train) {
        if (noTrain(train)) {
            return NOBODY;
        }
        return now.isAhead(train) ? 0 : STATE;
    }

    private void goInMind(int n) {
        mind.become(now);
        mind.go(n);
    }

    /** Whether a train is through in 72 hours from what is in mind. */
    private boolean getsThrough(int train) {
        mind.goWhileOnItsWay(train, MOST_HOURS);
        return mind.how[train] == THROUGH;
    }

    /** How many trains are through behind 72 hours from what is in mind. */
    private int throughInMind() {
        mind.goWhileAnyGoes(MOST_HOURS);
        return mind.howMany(THROUGH);
    }

    /** What the kinds of yards do; a kind that is not named does as the one that it is under. */
    private static final class Kinds {

        static int freezes(int kind, int figure, int cold) {
            switch (kind) {
                case BRIDGE:
                    return cold / 2;
                case SIDING:
                    return cold + figure;
                case HALT:
                    return Math.max(0, cold + figure - 2);
                default:
                    return cold;
            }
        }

        static int melts(int kind, int figure, int noon) {
            switch (kind) {
                case BRIDGE:
                    return 2 * noon;
                case CURVE:
                    return Math.max(0, noon - figure / 2);
                case SHADE:
                    return Math.max(0, noon - figure / 2) / 2;
                case HALT:
                    return noon + 1;
                default:
                    return noon;
            }
        }

        static int wants(int kind, int figure, int weight) {
            switch (kind) {
                case BRIDGE:
                    return weight + weight / 2;
                case CURVE:
                case SHADE:
                    return weight + figure;
                case SIDING:
                case HALT:
                    return weight / 2;
                default:
                    return weight;
            }
        }
    }

    /** Yards, trains and weather at one hour, and how an hour goes by. */
    private static final class Line {
        int many = 8;
        int hour = 0;
        int cold = 3;
        int noon = 4;
        int trains = 0;
        final int[] kind = new int[MOST_YARDS];
        final int[] figure = new int[MOST_YARDS];
        final int[] frost = new int[MOST_YARDS];
        final int[] weight = new int[MOST_TRAINS];
        final int[] warmth = new int[MOST_TRAINS];
        final int[] pace = new int[MOST_TRAINS];
        final int[] at = new int[MOST_TRAINS];
        final int[] waits = new int[MOST_TRAINS];
        final int[] how = new int[MOST_TRAINS];
        /** Hours gone by since this line became as another. */
        int passed = 0;
        /** Behind how many of these a train was through or in the lake. */
        final int[] ended = new int[MOST_TRAINS];
        /** What feelWeather() found, so that an hour needs not look at kinds. */
        final int[] freezing = new int[MOST_YARDS];
        final int[] melting = new int[MOST_YARDS];

        Line() {
            for (int yard = 0; yard < MOST_YARDS; yard++) {
                frost[yard] = 40;
            }
        }

        void become(Line other) {
            many = other.many;
            hour = other.hour;
            cold = other.cold;
            noon = other.noon;
            trains = other.trains;
            System.arraycopy(other.kind, 0, kind, 0, MOST_YARDS);
            System.arraycopy(other.figure, 0, figure, 0, MOST_YARDS);
            System.arraycopy(other.frost, 0, frost, 0, MOST_YARDS);
            passed = 0;
            for (int train = 0; train < trains; train++) {
                takeTrain(train, other, train);
                ended[train] = NOTHING;
            }
        }

        void takeTrain(int train, Line other, int theirs) {
            weight[train] = other.weight[theirs];
            warmth[train] = other.warmth[theirs];
            pace[train] = other.pace[theirs];
            at[train] = other.at[theirs];
            waits[train] = other.waits[theirs];
            how[train] = other.how[theirs];
        }

        // What a statement tells; false, and nothing changed, if it is not as it must be.

        boolean becomeMany(int n) {
            if (n < LEAST_YARDS || n > MOST_YARDS) {
                return false;
            }
            for (int train = 0; train < trains; train++) {
                if (how[train] == ON_ITS_WAY && at[train] >= n) {
                    return false;
                }
            }
            many = n;
            return true;
        }

        boolean becomeYard(int yard, int newKind, int newFigure, int newFrost) {
            if (yard < 0 || yard >= many || newKind < YARD || newKind > SHADE) {
                return false;
            }
            kind[yard] = newKind;
            figure[yard] = newFigure;
            frost[yard] = newFrost;
            return true;
        }

        boolean addTrain(int newWeight, int newWarmth, int newPace) {
            if (newWeight < 1 || newWeight > MOST_WEIGHT || newWarmth > MOST_WARMTH
                    || newPace < 1 || newPace > MOST_PACE || trains >= MOST_TRAINS) {
                return false;
            }
            weight[trains] = newWeight;
            warmth[trains] = newWarmth;
            pace[trains] = newPace;
            at[trains] = AHEAD;
            waits[trains] = 0;
            how[trains] = ON_ITS_WAY;
            ended[trains] = NOTHING;
            trains++;
            return true;
        }

        boolean letWait(int train, int wait) {
            if (train < 0 || train >= trains || wait < 0 || wait > MOST_WAITS) {
                return false;
            }
            if (how[train] != ON_ITS_WAY) {
                return false;
            }
            waits[train] = wait;
            return true;
        }

        // How hours go by.

        void go(int n) {
            feelWeather();
            for (int i = 0; i < n; i++) {
                passHour();
            }
        }

        void goWhileOnItsWay(int train, int n) {
            feelWeather();
            for (int i = 0; i < n && how[train] == ON_ITS_WAY; i++) {
                passHour();
            }
        }

        /** For what is asked of trains only: no more of them end when none is on its way. */
        void goWhileAnyGoes(int n) {
            feelWeather();
            for (int i = 0; i < n && howMany(ON_ITS_WAY) > 0; i++) {
                passHour();
            }
        }

        /** Must be called before hours pass, whenever kinds, figures or weather changed. */
        void feelWeather() {
            for (int yard = 0; yard < many; yard++) {
                freezing[yard] = Kinds.freezes(kind[yard], figure[yard], cold);
                melting[yard] = Kinds.melts(kind[yard], figure[yard], noon);
            }
        }

        void passHour() {
            passed++;
            int clock = hour % 24;
            if (clock >= 18 || clock <= 5) {
                freezeAll();
            } else if (clock >= 10 && clock <= 15) {
                meltAll();
            }
            for (int train = 0; train < trains; train++) {
                if (how[train] == ON_ITS_WAY) {
                    moveTrain(train);
                }
            }
            sinkTrains();
            hour++;
        }

        private void freezeAll() {
            for (int yard = 0; yard < many; yard++) {
                frost[yard] = Math.min(MOST_FROST, frost[yard] + freezing[yard]);
            }
        }

        private void meltAll() {
            for (int yard = 0; yard < many; yard++) {
                frost[yard] = Math.max(0, frost[yard] - melting[yard]);
            }
        }

        private void moveTrain(int train) {
            if (waits[train] > 0) {
                waits[train]--;
                return;
            }
            for (int step = 0; step < pace[train]; step++) {
                int next = at[train] + 1;
                if (next >= many) {
                    how[train] = THROUGH;
                    ended[train] = passed;
                    return;
                }
                if (frost[next] < Kinds.wants(kind[next], figure[next], weight[train]) || isTaken(next)) {
                    return;
                }
                at[train] = next;
                frost[next] = Math.max(0, frost[next] - warmth[train]);
            }
        }

        /** Whether a train on its way is there that lets no other in; there is room on sidings and halts. */
        private boolean isTaken(int yard) {
            if (kind[yard] == SIDING || kind[yard] == HALT) {
                return false;
            }
            for (int train = 0; train < trains; train++) {
                if (how[train] == ON_ITS_WAY && at[train] == yard) {
                    return true;
                }
            }
            return false;
        }

        private void sinkTrains() {
            for (int train = 0; train < trains; train++) {
                int under = at[train];
                if (how[train] == ON_ITS_WAY && under != AHEAD
                        && frost[under] < Kinds.wants(kind[under], figure[under], weight[train]) / 2) {
                    how[train] = IN_THE_LAKE;
                    ended[train] = passed;
                }
            }
        }

        /** A gang pours. */
        void pour(int yard) {
            frost[yard] = Math.min(MOST_FROST, frost[yard] + POURED);
        }

        // What can be seen.

        boolean bears(int yard, int load) {
            return frost[yard] >= Kinds.wants(kind[yard], figure[yard], load);
        }

        boolean allBear(int load) {
            for (int yard = 0; yard < many; yard++) {
                if (!bears(yard, load)) {
                    return false;
                }
            }
            return true;
        }

        boolean noneBears(int load) {
            for (int yard = 0; yard < many; yard++) {
                if (bears(yard, load)) {
                    return false;
                }
            }
            return true;
        }

        boolean isAhead(int train) {
            return how[train] == ON_ITS_WAY && at[train] == AHEAD;
        }

        int howMany(int state) {
            int found = 0;
            for (int train = 0; train < trains; train++) {
                if (how[train] == state) {
                    found++;
                }
            }
            return found;
        }

        int allFrost() {
            int all = 0;
            for (int yard = 0; yard < many; yard++) {
                all += frost[yard];
            }
            return all;
        }

        /** The first yard with the least frost. */
        int weakest() {
            int where = 0;
            for (int yard = 1; yard < many; yard++) {
                if (frost[yard] < frost[where]) {
                    where = yard;
                }
            }
            return where;
        }

        int greatestFrost() {
            int greatest = 0;
            for (int yard = 0; yard < many; yard++) {
                greatest = Math.max(greatest, frost[yard]);
            }
            return greatest;
        }

        /** Frost less the mean of those beside; at the ends there is but one. */
        int besideNeighbours(int yard) {
            int left = yard > 0 ? yard - 1 : yard + 1;
            int right = yard < many - 1 ? yard + 1 : yard - 1;
            return frost[yard] - (frost[left] + frost[right]) / 2;
        }

        /** Of both as near the lesser; -9 if there is no halt. */
        int nearestHalt(int from) {
            int nearest = NOTHING;
            for (int yard = 0; yard < many; yard++) {
                if (kind[yard] == HALT && (nearest == NOTHING
                        || Math.abs(yard - from) < Math.abs(nearest - from))) {
                    nearest = yard;
                }
            }
            return nearest;
        }
    }

    /** What can be taken back: the line as it was before each of the latest changes. */
    private static final class Past {
        final Line[] lines = new Line[MOST_BACK];
        int length = 0;

        Past() {
            for (int i = 0; i < MOST_BACK; i++) {
                lines[i] = new Line();
            }
        }

        void keep(Line line) {
            if (length == MOST_BACK) {
                dropOldest();
            }
            lines[length].become(line);
            length++;
        }

        private void dropOldest() {
            Line oldest = lines[0];
            for (int i = 1; i < MOST_BACK; i++) {
                lines[i - 1] = lines[i];
            }
            lines[MOST_BACK - 1] = oldest;
            length--;
        }

        void takeBack(Line line) {
            if (length > 0) {
                length--;
                line.become(lines[length]);
            }
        }

        void forget() {
            length = 0;
        }
    }

    /** The letters of a line: statements, each with ";" behind. */
    private static final class Letters {
        final int[] text = new int[MOST_LETTERS];
        int length = 0;

        void add(int letter) {
            if (length < MOST_LETTERS) {
                text[length] = letter;
                length++;
            }
        }

        /** -1 beyond the end. */
        int letterAt(int place) {
            return place >= 0 && place < length ? text[place] : -1;
        }

        /** The place of the first letter with which no line can go on; -1 if it is a line. */
        int brokenAt() {
            int place = 0;
            for (int statement = 0; statement < MOST_STATEMENTS; statement++) {
                int broken = brokenStatementAt(place);
                if (broken >= 0) {
                    return broken;
                }
                place += lengthAt(place);
                if (place >= length) {
                    return -1;
                }
            }
            return place;
        }

        private int brokenStatementAt(int start) {
            int digits = digitsBehind(letterAt(start));
            if (digits == 0) {
                return start;
            }
            int end = start + 1 + digits;
            for (int place = start + 1; place < end; place++) {
                if (!isDigit(letterAt(place))) {
                    return place;
                }
            }
            return letterAt(end) == ';' ? -1 : end;
        }

        /** How long the statement is that begins there, with its ";". */
        int lengthAt(int place) {
            return digitsBehind(letterAt(place)) + 2;
        }

        private static int digitsBehind(int letter) {
            switch (letter) {
                case 'n':
                case 'c':
                case 'h':
                    return 2;
                case 'w':
                    return 3;
                case 't':
                    return 4;
                case 'y':
                    return 6;
                default:
                    return 0;
            }
        }

        private static boolean isDigit(int letter) {
            return letter >= '0' && letter <= '9';
        }

        int number(int place, int digits) {
            int number = 0;
            for (int i = place; i < place + digits; i++) {
                number = 10 * number + letterAt(i) - '0';
            }
            return number;
        }
    }
}
