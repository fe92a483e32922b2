import java.util.function.Supplier;

/**
 * Each call that is refused, promise by promise: alone, and where two refusals fit at once, answered by the
 * number that comes first; nothing else changes by it but how many there were.
 */
public final class RefusedTest {
    private static final int MIN = Integer.MIN_VALUE;
    private static final int MAX = Integer.MAX_VALUE;
    private static final Due due = new Due("RefusedTest");
    private static Supplier<RailsOfIce> world;
    private static String untouched;

    private interface Call {
        long of(RailsOfIce x);
    }

    public static void main(String[] args) {
        from(Worlds::rich);
        richWorld();
        promises2to7();
        promises8to12();
        promises14to18();
        promises19to22();
        promises24to32();
        promises33to37();
        promises40to47();
        threeAtOnce();
        from(Worlds::full);
        full();
        from(RefusedTest::hour928);
        hoursAbove999();
        from(RefusedTest::fiveAhead);
        fiveAreAhead();
        from(RailsOfIce::new);
        newObject();
        lineWithFault();
        due.end();
    }

    private static void from(Supplier<RailsOfIce> made) {
        world = made;
        untouched = Whole.of(made.get(), 0);
    }

    /** The call is refused by that number, and all else stays as it was. */
    private static void refused(String call, int number, Call made) {
        RailsOfIce x = world.get();
        long answer = made.of(x);
        due.is(call, number, answer);
        due.same("what there is behind " + call, untouched, Whole.of(x, number));
    }

    /** The worlds are as they are meant, so that each refusal fits. */
    private static void richWorld() {
        RailsOfIce x = Worlds.rich();
        due.is("yards", 6, x.count(0));
        due.is("trains", 4, x.count(1));
        due.is("0 is through", 1, x.told(0, 5));
        due.is("1 is in the lake", 2, x.told(1, 5));
        due.is("2 is on its way", 0, x.told(2, 5));
        due.is("on yard 2", 2, x.told(2, 3));
        due.is("3 is ahead", -1, x.told(3, 3));
        due.is("8 can be taken back", 8, x.count(8));
        due.is("letters", 5, x.count(6));
        due.is("row", 3, x.count(7));
        x = Worlds.full();
        due.is("trains", 5, x.count(1));
        due.is("HOUR", 999, x.count(2));
        due.is("letters", 96, x.count(6));
        due.is("row", 16, x.count(7));
        due.is("8 can be taken back", 8, x.count(8));
    }

    private static void promises2to7() {
        refused("feed(-1)", -4, x -> x.feed(-1));
        refused("feed(min)", -4, x -> x.feed(MIN));
        refused("feed(256)", -6, x -> x.feed(256));
        refused("feed(max)", -6, x -> x.feed(MAX));

        refused("yard(-1, 0)", -1, x -> x.yard(-1, 0));
        refused("yard(6, 0)", -1, x -> x.yard(6, 0));
        refused("yard(16, 0)", -1, x -> x.yard(16, 0));
        refused("yard(min, 0)", -1, x -> x.yard(MIN, 0));
        refused("yard(max, 0)", -1, x -> x.yard(MAX, 0));
        refused("yard(-1, -1)", -1, x -> x.yard(-1, -1));
        refused("yard(6, 6)", -1, x -> x.yard(6, 6));
        refused("yard(0, -1)", -2, x -> x.yard(0, -1));
        refused("yard(5, 6)", -2, x -> x.yard(5, 6));
        refused("yard(0, min)", -2, x -> x.yard(0, MIN));
        refused("yard(0, max)", -2, x -> x.yard(0, MAX));

        refused("turn(-1, 0, 0)", -1, x -> x.turn(-1, 0, 0));
        refused("turn(6, 5, 9)", -1, x -> x.turn(6, 5, 9));
        refused("turn(-1, -1, 0)", -1, x -> x.turn(-1, -1, 0));
        refused("turn(6, 6, 9)", -1, x -> x.turn(6, 6, 9));
        refused("turn(-1, 0, -1)", -1, x -> x.turn(-1, 0, -1));
        refused("turn(6, 0, 10)", -1, x -> x.turn(6, 0, 10));
        refused("turn(0, -1, 0)", -2, x -> x.turn(0, -1, 0));
        refused("turn(5, 6, 9)", -2, x -> x.turn(5, 6, 9));
        refused("turn(0, -1, -1)", -2, x -> x.turn(0, -1, -1));
        refused("turn(0, 6, 10)", -2, x -> x.turn(0, 6, 10));
        refused("turn(0, 0, -1)", -4, x -> x.turn(0, 0, -1));
        refused("turn(0, 5, min)", -4, x -> x.turn(0, 5, MIN));
        refused("turn(5, 5, 10)", -6, x -> x.turn(5, 5, 10));
        refused("turn(5, 0, max)", -6, x -> x.turn(5, 0, MAX));

        refused("frost(-1, 0)", -1, x -> x.frost(-1, 0));
        refused("frost(6, 99)", -1, x -> x.frost(6, 99));
        refused("frost(-1, -1)", -1, x -> x.frost(-1, -1));
        refused("frost(6, 100)", -1, x -> x.frost(6, 100));
        refused("frost(0, -1)", -4, x -> x.frost(0, -1));
        refused("frost(0, min)", -4, x -> x.frost(0, MIN));
        refused("frost(5, 100)", -6, x -> x.frost(5, 100));
        refused("frost(5, max)", -6, x -> x.frost(5, MAX));

        refused("weather(-1, 0)", -2, x -> x.weather(-1, 0));
        refused("weather(2, 9)", -2, x -> x.weather(2, 9));
        refused("weather(-1, -1)", -2, x -> x.weather(-1, -1));
        refused("weather(2, 10)", -2, x -> x.weather(2, 10));
        refused("weather(0, -1)", -4, x -> x.weather(0, -1));
        refused("weather(1, -1)", -4, x -> x.weather(1, -1));
        refused("weather(0, 10)", -6, x -> x.weather(0, 10));
        refused("weather(1, 10)", -6, x -> x.weather(1, 10));
    }

    private static void promises8to12() {
        refused("many(1)", -4, x -> x.many(1));
        refused("many(0)", -4, x -> x.many(0));
        refused("many(min)", -4, x -> x.many(MIN));
        refused("many(17)", -6, x -> x.many(17));
        refused("many(max)", -6, x -> x.many(MAX));
        refused("many(2), a TRAIN on its way is on YARD 2", -3, x -> x.many(2));

        refused("train(0, 0, 1)", -4, x -> x.train(0, 0, 1));
        refused("train(1, -1, 1)", -4, x -> x.train(1, -1, 1));
        refused("train(1, 0, 0)", -4, x -> x.train(1, 0, 0));
        refused("train(61, 0, 1)", -6, x -> x.train(61, 0, 1));
        refused("train(1, 10, 1)", -6, x -> x.train(1, 10, 1));
        refused("train(1, 0, 4)", -6, x -> x.train(1, 0, 4));
        refused("train(0, 10, 1)", -4, x -> x.train(0, 10, 1));
        refused("train(0, 0, 4)", -4, x -> x.train(0, 0, 4));
        refused("train(61, -1, 1)", -4, x -> x.train(61, -1, 1));
        refused("train(1, -1, 4)", -4, x -> x.train(1, -1, 4));
        refused("train(61, 0, 0)", -4, x -> x.train(61, 0, 0));
        refused("train(1, 10, 0)", -4, x -> x.train(1, 10, 0));
        refused("train(max, 0, 1)", -6, x -> x.train(MAX, 0, 1));
        refused("train(1, min, 1)", -4, x -> x.train(1, MIN, 1));

        refused("told(-1, 0)", -1, x -> x.told(-1, 0));
        refused("told(4, 0)", -1, x -> x.told(4, 0));
        refused("told(-1, -1)", -1, x -> x.told(-1, -1));
        refused("told(4, 6)", -1, x -> x.told(4, 6));
        refused("told(0, -1)", -2, x -> x.told(0, -1));
        refused("told(3, 6)", -2, x -> x.told(3, 6));

        refused("waits(-1, 0)", -1, x -> x.waits(-1, 0));
        refused("waits(4, 48)", -1, x -> x.waits(4, 48));
        refused("waits(-1, -1)", -1, x -> x.waits(-1, -1));
        refused("waits(4, 49)", -1, x -> x.waits(4, 49));
        refused("waits(3, -1)", -4, x -> x.waits(3, -1));
        refused("waits(2, 49)", -6, x -> x.waits(2, 49));
        refused("waits(0, 0), it is through", -3, x -> x.waits(0, 0));
        refused("waits(1, 48), it is in the LAKE", -3, x -> x.waits(1, 48));
        refused("waits(0, -1), through", -4, x -> x.waits(0, -1));
        refused("waits(0, 49), through", -6, x -> x.waits(0, 49));
        refused("waits(1, -1), in the LAKE", -4, x -> x.waits(1, -1));
        refused("waits(1, 49), in the LAKE", -6, x -> x.waits(1, 49));

        refused("hours(0)", -4, x -> x.hours(0));
        refused("hours(-1)", -4, x -> x.hours(-1));
        refused("hours(min)", -4, x -> x.hours(MIN));
        refused("hours(73)", -6, x -> x.hours(73));
        refused("hours(max)", -6, x -> x.hours(MAX));
    }

    private static void promises14to18() {
        refused("frostIn(-1, 0)", -1, x -> x.frostIn(-1, 0));
        refused("frostIn(6, 72)", -1, x -> x.frostIn(6, 72));
        refused("frostIn(-1, -1)", -1, x -> x.frostIn(-1, -1));
        refused("frostIn(6, 73)", -1, x -> x.frostIn(6, 73));
        refused("frostIn(0, -1)", -4, x -> x.frostIn(0, -1));
        refused("frostIn(5, 73)", -6, x -> x.frostIn(5, 73));

        refused("trainIn(-1, 0, 0)", -1, x -> x.trainIn(-1, 0, 0));
        refused("trainIn(4, 72, 2)", -1, x -> x.trainIn(4, 72, 2));
        refused("trainIn(-1, -1, 0)", -1, x -> x.trainIn(-1, -1, 0));
        refused("trainIn(4, 73, 0)", -1, x -> x.trainIn(4, 73, 0));
        refused("trainIn(4, 0, 3)", -1, x -> x.trainIn(4, 0, 3));
        refused("trainIn(0, -1, 0)", -4, x -> x.trainIn(0, -1, 0));
        refused("trainIn(0, -1, -1)", -4, x -> x.trainIn(0, -1, -1));
        refused("trainIn(3, 73, 2)", -6, x -> x.trainIn(3, 73, 2));
        refused("trainIn(3, 73, 3)", -6, x -> x.trainIn(3, 73, 3));
        refused("trainIn(0, 0, -1)", -2, x -> x.trainIn(0, 0, -1));
        refused("trainIn(3, 72, 3)", -2, x -> x.trainIn(3, 72, 3));

        refused("through(-1, 0)", -4, x -> x.through(-1, 0));
        refused("through(73, 1)", -6, x -> x.through(73, 1));
        refused("through(-1, 2)", -4, x -> x.through(-1, 2));
        refused("through(73, -1)", -6, x -> x.through(73, -1));
        refused("through(0, -1)", -2, x -> x.through(0, -1));
        refused("through(72, 2)", -2, x -> x.through(72, 2));

        refused("thin(-1, 1)", -4, x -> x.thin(-1, 1));
        refused("thin(0, 0)", -4, x -> x.thin(0, 0));
        refused("thin(-1, 0)", -4, x -> x.thin(-1, 0));
        refused("thin(-1, 61)", -4, x -> x.thin(-1, 61));
        refused("thin(73, 0)", -4, x -> x.thin(73, 0));
        refused("thin(73, 60)", -6, x -> x.thin(73, 60));
        refused("thin(72, 61)", -6, x -> x.thin(72, 61));
        refused("thin(73, 61)", -6, x -> x.thin(73, 61));

        refused("lasts(-1, 1)", -1, x -> x.lasts(-1, 1));
        refused("lasts(6, 60)", -1, x -> x.lasts(6, 60));
        refused("lasts(-1, 0)", -1, x -> x.lasts(-1, 0));
        refused("lasts(6, 61)", -1, x -> x.lasts(6, 61));
        refused("lasts(0, 0)", -4, x -> x.lasts(0, 0));
        refused("lasts(5, 61)", -6, x -> x.lasts(5, 61));
    }

    private static void promises19to22() {
        refused("lowest(-1, 0)", -4, x -> x.lowest(-1, 0));
        refused("lowest(73, 1)", -6, x -> x.lowest(73, 1));
        refused("lowest(-1, -1)", -4, x -> x.lowest(-1, -1));
        refused("lowest(73, 2)", -6, x -> x.lowest(73, 2));
        refused("lowest(0, -1)", -2, x -> x.lowest(0, -1));
        refused("lowest(72, 2)", -2, x -> x.lowest(72, 2));

        refused("last(-1)", -1, x -> x.last(-1));
        refused("last(4)", -1, x -> x.last(4));
        refused("last(0), through", -3, x -> x.last(0));
        refused("last(1), in the LAKE", -3, x -> x.last(1));
        refused("last(2), on the line", -3, x -> x.last(2));

        refused("bestWait(-1, 0)", -1, x -> x.bestWait(-1, 0));
        refused("bestWait(4, 1)", -1, x -> x.bestWait(4, 1));
        refused("bestWait(-1, -1)", -1, x -> x.bestWait(-1, -1));
        refused("bestWait(4, 2)", -1, x -> x.bestWait(4, 2));
        refused("bestWait(3, -1)", -2, x -> x.bestWait(3, -1));
        refused("bestWait(3, 2)", -2, x -> x.bestWait(3, 2));
        refused("bestWait(0, 2), through", -2, x -> x.bestWait(0, 2));
        refused("bestWait(1, -1), in the LAKE", -2, x -> x.bestWait(1, -1));
        refused("bestWait(2, 2), on the line", -2, x -> x.bestWait(2, 2));
        refused("bestWait(0, 0), through", -3, x -> x.bestWait(0, 0));
        refused("bestWait(1, 1), in the LAKE", -3, x -> x.bestWait(1, 1));
        refused("bestWait(2, 0), on the line", -3, x -> x.bestWait(2, 0));

        refused("heaviest(-1, 0)", -1, x -> x.heaviest(-1, 0));
        refused("heaviest(4, 2)", -1, x -> x.heaviest(4, 2));
        refused("heaviest(-1, -1)", -1, x -> x.heaviest(-1, -1));
        refused("heaviest(4, 3)", -1, x -> x.heaviest(4, 3));
        refused("heaviest(3, -1)", -2, x -> x.heaviest(3, -1));
        refused("heaviest(3, 3)", -2, x -> x.heaviest(3, 3));
        refused("heaviest(0, 3), through", -2, x -> x.heaviest(0, 3));
        refused("heaviest(1, -1), in the LAKE", -2, x -> x.heaviest(1, -1));
        refused("heaviest(2, 3), on the line", -2, x -> x.heaviest(2, 3));
        for (int what = 0; what <= 2; what++) {
            int asked = what;
            refused("heaviest(0, " + what + "), through", -3, x -> x.heaviest(0, asked));
            refused("heaviest(1, " + what + "), in the LAKE", -3, x -> x.heaviest(1, asked));
            refused("heaviest(2, " + what + "), on the line", -3, x -> x.heaviest(2, asked));
        }
    }

    private static void promises24to32() {
        refused("pourFewest(-1)", -1, x -> x.pourFewest(-1));
        refused("pourFewest(4)", -1, x -> x.pourFewest(4));
        refused("pourFewest(0), through", -3, x -> x.pourFewest(0));
        refused("pourFewest(1), in the LAKE", -3, x -> x.pourFewest(1));

        refused("strongest(0)", -4, x -> x.strongest(0));
        refused("strongest(min)", -4, x -> x.strongest(MIN));
        refused("strongest(61)", -6, x -> x.strongest(61));
        refused("strongest(max)", -6, x -> x.strongest(MAX));

        refused("order(-1)", -2, x -> x.order(-1));
        refused("order(2)", -2, x -> x.order(2));

        refused("timetable(-1, 3)", -1, x -> x.timetable(-1, 3));
        refused("timetable(3, -1)", -1, x -> x.timetable(3, -1));
        refused("timetable(4, 3)", -1, x -> x.timetable(4, 3));
        refused("timetable(3, 4)", -1, x -> x.timetable(3, 4));
        refused("timetable(-1, 4)", -1, x -> x.timetable(-1, 4));
        refused("timetable(3, 3), one twice", -1, x -> x.timetable(3, 3));
        refused("timetable(0, 0), one twice, through", -1, x -> x.timetable(0, 0));
        refused("timetable(2, 2), one twice, on the line", -1, x -> x.timetable(2, 2));
        refused("timetable(0, 4), through", -1, x -> x.timetable(0, 4));
        refused("timetable(-1, 2), on the line", -1, x -> x.timetable(-1, 2));
        refused("timetable(0, 3), through", -3, x -> x.timetable(0, 3));
        refused("timetable(3, 0), through", -3, x -> x.timetable(3, 0));
        refused("timetable(1, 3), in the LAKE", -3, x -> x.timetable(1, 3));
        refused("timetable(3, 1), in the LAKE", -3, x -> x.timetable(3, 1));
        refused("timetable(2, 3), on the line", -3, x -> x.timetable(2, 3));
        refused("timetable(3, 2), on the line", -3, x -> x.timetable(3, 2));
        refused("timetable(0, 1), neither", -3, x -> x.timetable(0, 1));

        refused("near(-1)", -1, x -> x.near(-1));
        refused("near(6)", -1, x -> x.near(6));

        refused("rescue(-1)", -1, x -> x.rescue(-1));
        refused("rescue(4)", -1, x -> x.rescue(4));
        refused("rescue(3), ahead", -3, x -> x.rescue(3));
        refused("rescue(0), through", -3, x -> x.rescue(0));
    }

    private static void promises33to37() {
        refused("march(-1)", -2, x -> x.march(-1));
        refused("march(3)", -2, x -> x.march(3));

        longRefused("noons(-1, 0)", -1, x -> x.noons(-1, 0));
        longRefused("noons(4, 1)", -1, x -> x.noons(4, 1));
        longRefused("noons(-1, -1)", -1, x -> x.noons(-1, -1));
        longRefused("noons(4, 2)", -1, x -> x.noons(4, 2));
        longRefused("noons(0, -1)", -2, x -> x.noons(0, -1));
        longRefused("noons(3, 2)", -2, x -> x.noons(3, 2));

        refused("noon(-1)", -1, x -> x.noon(-1));
        refused("noon(4)", -1, x -> x.noon(4));

        refused("needed(-1, 0)", -1, x -> x.needed(-1, 0));
        refused("needed(6, 3)", -1, x -> x.needed(6, 3));
        refused("needed(0, -1)", -1, x -> x.needed(0, -1));
        refused("needed(5, 4)", -1, x -> x.needed(5, 4));
        refused("needed(-1, -1)", -1, x -> x.needed(-1, -1));
        refused("needed(6, 4)", -1, x -> x.needed(6, 4));
    }

    private static void longRefused(String call, int number, Call made) {
        refused(call + " less 4000000000000000000", number, x -> 4000000000000000000L - made.of(x));
    }

    private static void promises40to47() {
        refused("mean(-1, 0)", -4, x -> x.mean(-1, 0));
        refused("mean(73, 1)", -6, x -> x.mean(73, 1));
        refused("mean(-1, 2)", -4, x -> x.mean(-1, 2));
        refused("mean(73, -1)", -6, x -> x.mean(73, -1));
        refused("mean(0, -1)", -2, x -> x.mean(0, -1));
        refused("mean(72, 2)", -2, x -> x.mean(72, 2));

        refused("runs(0, 0)", -4, x -> x.runs(0, 0));
        refused("runs(61, 1)", -6, x -> x.runs(61, 1));
        refused("runs(0, 2)", -4, x -> x.runs(0, 2));
        refused("runs(61, -1)", -6, x -> x.runs(61, -1));
        refused("runs(1, -1)", -2, x -> x.runs(1, -1));
        refused("runs(60, 2)", -2, x -> x.runs(60, 2));

        refused("stands(-1)", -1, x -> x.stands(-1));
        refused("stands(4)", -1, x -> x.stands(4));

        refused("row(-1)", -4, x -> x.row(-1));
        refused("row(100)", -6, x -> x.row(100));

        refused("judge(-1)", -4, x -> x.judge(-1));
        refused("judge(73)", -6, x -> x.judge(73));

        refused("lots(0, 1, 0)", -4, x -> x.lots(0, 1, 0));
        refused("lots(21, 1, 1)", -6, x -> x.lots(21, 1, 1));
        refused("lots(0, 1, 2)", -4, x -> x.lots(0, 1, 2));
        refused("lots(21, 1, -1)", -6, x -> x.lots(21, 1, -1));
        refused("lots(1, 1, -1)", -2, x -> x.lots(1, 1, -1));
        refused("lots(20, 1, 2)", -2, x -> x.lots(20, 1, 2));
    }

    private static void threeAtOnce() {
        refused("turn(-1, -1, -1)", -1, x -> x.turn(-1, -1, -1));
        refused("turn(6, 6, 10)", -1, x -> x.turn(6, 6, 10));
        refused("train(0, -1, 0)", -4, x -> x.train(0, -1, 0));
        refused("train(61, 10, 4)", -6, x -> x.train(61, 10, 4));
        refused("train(61, 10, 0)", -4, x -> x.train(61, 10, 0));
        refused("train(61, -1, 4)", -4, x -> x.train(61, -1, 4));
        refused("train(0, 10, 4)", -4, x -> x.train(0, 10, 4));
        refused("trainIn(-1, -1, -1)", -1, x -> x.trainIn(-1, -1, -1));
        refused("trainIn(4, 73, 3)", -1, x -> x.trainIn(4, 73, 3));
        refused("weather(min, min)", -2, x -> x.weather(MIN, MIN));
        refused("weather(max, max)", -2, x -> x.weather(MAX, MAX));
        refused("waits(min, max)", -1, x -> x.waits(MIN, MAX));
        refused("thin(min, max)", -4, x -> x.thin(MIN, MAX));
        refused("thin(max, min)", -4, x -> x.thin(MAX, MIN));
        refused("lots(min, 0, max)", -4, x -> x.lots(MIN, 0, MAX));
        refused("lots(max, 0, min)", -6, x -> x.lots(MAX, 0, MIN));
        refused("timetable(min, min)", -1, x -> x.timetable(MIN, MIN));
    }

    private static void full() {
        refused("the 97th letter", -6, x -> x.feed(0));
        refused("the 97th letter, 255", -6, x -> x.feed(255));
        refused("the 97th letter, below", -4, x -> x.feed(-1));
        refused("the 97th letter, above", -6, x -> x.feed(256));
        refused("the sixth TRAIN", -6, x -> x.train(1, 0, 1));
        refused("the sixth TRAIN, above", -6, x -> x.train(61, 0, 1));
        refused("the sixth TRAIN, weight 0", -4, x -> x.train(0, 0, 1));
        refused("the sixth TRAIN, warmth -1", -4, x -> x.train(1, -1, 1));
        refused("the sixth TRAIN, pace 0", -4, x -> x.train(1, 0, 0));
        refused("the 17th number", -6, x -> x.row(0));
        refused("the 17th number, below", -4, x -> x.row(-1));
        refused("the 17th number, above", -6, x -> x.row(100));
        refused("HOUR 1000", -6, x -> x.hours(1));
        refused("HOUR 1071", -6, x -> x.hours(72));
        refused("HOUR 1072", -6, x -> x.hours(73));
        refused("HOUR 999, below", -4, x -> x.hours(0));
        refused("HOUR 999, far below", -4, x -> x.hours(-72));
        refused("the sixth TRAIN is told of", -1, x -> x.told(5, 0));
        refused("five are ahead", -3, x -> x.order(0));
    }

    private static RailsOfIce hour928() {
        RailsOfIce x = Worlds.rich();
        Worlds.toHour(x, 928);
        return x;
    }

    private static void hoursAbove999() {
        refused("HOUR 928 and 72", -6, x -> x.hours(72));
        due.is("HOUR 928 and 71", 0, hour928().hours(71));
    }

    private static RailsOfIce fiveAhead() {
        RailsOfIce x = Worlds.still40();
        for (int train = 0; train < 5; train++) {
            x.train(40, 0, 1);
        }
        x.frost(7, 41);
        x.image();
        return x;
    }

    private static void fiveAreAhead() {
        refused("order(0), five are ahead", -3, x -> x.order(0));
        refused("order(1), five are ahead", -3, x -> x.order(1));
        refused("order(-1), five are ahead", -2, x -> x.order(-1));
        refused("order(2), five are ahead", -2, x -> x.order(2));
    }

    /** No TRAIN, nothing that could be TAKEN BACK, no IMAGE, eight YARDS. */
    private static void newObject() {
        refused("back()", -3, RailsOfIce::back);
        refused("restore()", -3, RailsOfIce::restore);
        refused("yard(8, 0)", -1, x -> x.yard(8, 0));
        refused("told(0, 0)", -1, x -> x.told(0, 0));
        refused("told(0, 6)", -1, x -> x.told(0, 6));
        refused("waits(0, 0)", -1, x -> x.waits(0, 0));
        refused("waits(0, 49)", -1, x -> x.waits(0, 49));
        refused("trainIn(0, 0, 0)", -1, x -> x.trainIn(0, 0, 0));
        refused("last(0)", -1, x -> x.last(0));
        refused("bestWait(0, 0)", -1, x -> x.bestWait(0, 0));
        refused("heaviest(0, 0)", -1, x -> x.heaviest(0, 0));
        refused("pourFewest(0)", -1, x -> x.pourFewest(0));
        refused("timetable(0, 1)", -1, x -> x.timetable(0, 1));
        refused("rescue(0)", -1, x -> x.rescue(0));
        longRefused("noons(0, 0)", -1, x -> x.noons(0, 0));
        refused("noon(0)", -1, x -> x.noon(0));
        refused("needed(0, 0)", -1, x -> x.needed(0, 0));
        refused("stands(0)", -1, x -> x.stands(0));
        refused("judge(-1), an empty ROW", -4, x -> x.judge(-1));
        refused("judge(73), an empty ROW", -6, x -> x.judge(73));
    }

    /** A FAULT is no REFUSAL, and nothing comes; but the letters are no more. */
    private static void lineWithFault() {
        String[] faults = {"", "n", "c12;n", "n01;", "c99;y155900;n12;t0131;w448;w048;h72;n17;", "h10;w207;w307;w007;",
            "c12;t0111;t0111;", "n02;", "y060040;", "h00;"};
        for (String fault : faults) {
            RailsOfIce untold = Worlds.rich();
            untold.line();
            RailsOfIce told = Worlds.rich();
            told.line();
            due.holds("a FAULT: " + fault, Worlds.line(told, fault) <= -1000);
            due.same("what there is behind " + fault, Whole.of(untold, 0), Whole.of(told, 0));
        }
    }
}
