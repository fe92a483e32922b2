import java.math.BigInteger;

/** The sentences of "Terms" that name a boundary case: a case of its own for each. Worked out by hand. */
public final class TermsTest {
    private static final Due due = new Due("TermsTest");

    public static void main(String[] args) {
        atFirst();
        freezes();
        melts();
        wants();
        everyHourOfTheDay();
        laterDays();
        frostHeldAt99();
        frostHeldAt0();
        pouredHeldAt99();
        borne();
        beyondTheLine();
        taken();
        notTaken();
        byNumbers();
        pace();
        waits();
        halfOfWhatItWants();
        whoSinks();
        takenBackAtMost8();
        whatLeavesNone();
        whatLeavesThem();
        whatCanBeTakenBack();
        drawsThatWrap();
        leastTerms();
        due.end();
    }

    private static void atFirst() {
        RailsOfIce x = new RailsOfIce();
        due.is("YARDS", 8, x.count(0));
        due.is("COLD", 3, x.count(3));
        due.is("NOON", 4, x.count(4));
        due.is("HOUR", 0, x.count(2));
        x.many(16);
        for (int yard = 0; yard < 16; yard++) {
            due.is("KIND", 0, x.yard(yard, 0));
            due.is("FIGURE", 0, x.yard(yard, 1));
            due.is("FROST", 40, x.yard(yard, 2));
        }
        x.train(60, 9, 3);
        due.is("AT", -1, x.told(0, 3));
        due.is("WAITS", 0, x.told(0, 4));
        due.is("on its way", 0, x.told(0, 5));
    }

    /** KIND, FIGURE, COLD, and by how much it FREEZES. */
    private static void freezes() {
        int[][] cases = {{0, 9, 0, 0}, {0, 9, 9, 9}, {1, 9, 0, 0}, {1, 0, 1, 0}, {1, 0, 2, 1}, {1, 0, 9, 4},
            {2, 9, 0, 0}, {2, 9, 9, 9}, {3, 0, 0, 0}, {3, 9, 0, 9}, {3, 9, 9, 18}, {4, 0, 0, 0}, {4, 0, 1, 0},
            {4, 1, 0, 0}, {4, 0, 2, 0}, {4, 2, 0, 0}, {4, 3, 0, 1}, {4, 0, 3, 1}, {4, 9, 9, 16}, {5, 9, 0, 0},
            {5, 9, 9, 9}};
        for (int[] c : cases) {
            RailsOfIce x = Worlds.still(20, 20);
            x.turn(1, c[0], c[1]);
            x.weather(0, c[2]);
            due.is("KIND " + c[0] + " FIGURE " + c[1] + " by COLD " + c[2], c[3], x.yard(1, 3));
            x.hours(1);
            due.is("FROST of it", 20 + c[3], x.yard(1, 2));
        }
    }

    /** KIND, FIGURE, NOON, and by how much it MELTS. */
    private static void melts() {
        int[][] cases = {{0, 9, 0, 0}, {0, 9, 9, 9}, {1, 9, 0, 0}, {1, 9, 1, 2}, {1, 9, 9, 18}, {2, 0, 9, 9},
            {2, 1, 9, 9}, {2, 2, 9, 8}, {2, 9, 9, 5}, {2, 9, 5, 1}, {2, 9, 4, 0}, {2, 9, 3, 0}, {2, 9, 0, 0},
            {2, 7, 4, 1}, {3, 9, 0, 0}, {3, 9, 9, 9}, {4, 9, 0, 1}, {4, 0, 9, 10}, {5, 0, 0, 0}, {5, 0, 1, 0},
            {5, 0, 2, 1}, {5, 0, 9, 4}, {5, 9, 9, 2}, {5, 9, 0, 0}, {5, 9, 3, 0}, {5, 9, 5, 0}, {5, 9, 6, 1}};
        for (int[] c : cases) {
            RailsOfIce x = Worlds.still(20, 20);
            x.hours(10);
            x.turn(1, c[0], c[1]);
            x.weather(1, c[2]);
            due.is("KIND " + c[0] + " FIGURE " + c[1] + " by NOON " + c[2], c[3], x.yard(1, 4));
            x.hours(1);
            due.is("FROST of it", 20 - c[3], x.yard(1, 2));
        }
    }

    /** KIND, FIGURE, WEIGHT, and what it WANTS: with so much it bears, with 1 less it does not. */
    private static void wants() {
        int[][] cases = {{0, 9, 1, 1}, {0, 9, 60, 60}, {1, 9, 1, 1}, {1, 9, 2, 3}, {1, 9, 3, 4}, {1, 9, 60, 90},
            {2, 0, 1, 1}, {2, 9, 1, 10}, {2, 9, 60, 69}, {3, 9, 1, 0}, {3, 9, 2, 1}, {3, 9, 3, 1}, {3, 9, 60, 30},
            {4, 9, 1, 0}, {4, 9, 2, 1}, {4, 9, 3, 1}, {4, 9, 60, 30}, {5, 0, 1, 1}, {5, 9, 1, 10}, {5, 9, 60, 69},
            {0, 9, 20, 20}, {1, 9, 20, 30}, {2, 9, 20, 29}, {3, 9, 20, 10}, {4, 9, 20, 10}, {5, 9, 20, 29}};
        for (int[] c : cases) {
            String what = "KIND " + c[0] + " FIGURE " + c[1] + " under " + c[2];
            RailsOfIce x = Worlds.still(99, c[3]);
            x.turn(1, c[0], c[1]);
            due.is(what + " bears", -9, x.thin(0, c[2]));
            if (c[2] == 20) {
                due.is(what + " wants", c[3], x.yard(1, 5));
            }
            if (c[3] > 0) {
                x.frost(1, c[3] - 1);
                due.is(what + " does not bear", 1, x.thin(0, c[2]));
            }
        }
    }

    private static void everyHourOfTheDay() {
        int[] frosts = {53, 53, 53, 53, 53, 53, 50, 50, 50, 50, 46, 46, 46, 46, 46, 46, 50, 50, 53, 53, 53, 53, 53,
            53};
        for (int hour = 0; hour < 24; hour++) {
            due.is("HOUR " + hour, frosts[hour], behindAnHour(hour));
        }
    }

    private static void laterDays() {
        int[] hours = {24, 29, 30, 33, 34, 39, 40, 41, 42, 47, 48, 53, 54, 983, 984, 989, 990, 994, 998};
        int[] frosts = {53, 53, 50, 50, 46, 46, 50, 50, 53, 53, 53, 53, 50, 53, 53, 53, 50, 46, 46};
        for (int i = 0; i < hours.length; i++) {
            due.is("HOUR " + hours[i], frosts[i], behindAnHour(hours[i]));
        }
        RailsOfIce x = Worlds.still(50, 50);
        Worlds.toHour(x, 999);
        x.weather(0, 3);
        x.weather(1, 4);
        int[] behind = {0, 1, 2, 3, 4, 9, 10, 15, 16, 72};
        int[] dues = {50, 46, 46, 46, 49, 64, 67, 82, 82, 79};
        for (int i = 0; i < behind.length; i++) {
            due.is("behind " + behind[i] + " from HOUR 999", dues[i], x.frostIn(0, behind[i]));
        }
    }

    /** FROST 50 at that HOUR, COLD 3, NOON 4. */
    private static int behindAnHour(int hour) {
        RailsOfIce x = Worlds.still(50, 50);
        Worlds.toHour(x, hour);
        x.weather(0, 3);
        x.weather(1, 4);
        due.is("in mind", x.frostIn(1, 1), x.frostIn(0, 1));
        x.hours(1);
        due.is("HOUR", hour + 1, x.count(2));
        return x.yard(0, 2);
    }

    private static void frostHeldAt99() {
        int[] before = {95, 96, 97, 98, 99};
        int[] behind = {98, 99, 99, 99, 99};
        for (int i = 0; i < before.length; i++) {
            RailsOfIce x = new RailsOfIce();
            x.frost(0, before[i]);
            due.is(before[i] + " and 3, in mind", behind[i], x.frostIn(0, 1));
            x.hours(1);
            due.is(before[i] + " and 3", behind[i], x.yard(0, 2));
        }
        RailsOfIce x = new RailsOfIce();
        x.hours(5);
        x.frost(0, 98);
        x.hours(6);
        due.is("99, and then 4 less", 95, x.yard(0, 2));
        x.turn(0, 3, 9);
        x.frost(0, 0);
        due.is("a siding of 12 an HOUR", 99, x.frostIn(0, 19));
    }

    private static void frostHeldAt0() {
        int[] before = {0, 3, 4, 5};
        int[] behind = {0, 0, 0, 1};
        for (int i = 0; i < before.length; i++) {
            RailsOfIce x = new RailsOfIce();
            x.hours(10);
            x.frost(0, before[i]);
            due.is(before[i] + " less 4, in mind", behind[i], x.frostIn(0, 1));
            x.hours(1);
            due.is(before[i] + " less 4", behind[i], x.yard(0, 2));
        }
        RailsOfIce x = new RailsOfIce();
        x.hours(15);
        x.frost(0, 2);
        x.hours(4);
        due.is("0, and then 3 more", 3, x.yard(0, 2));
        int[] frosts = {1, 8, 9, 10, 99};
        int[] lost = {0, 0, 0, 1, 90};
        for (int i = 0; i < frosts.length; i++) {
            x = Worlds.still(frosts[i], 0);
            x.train(1, 9, 1);
            x.hours(1);
            due.is("it goes there", 0, x.told(0, 3));
            due.is(frosts[i] + " loses WARMTH 9", lost[i], x.yard(0, 2));
        }
    }

    /** A bridge that wants 90: 95 poured on is 99; NOON 4 takes 8, NOON 5 takes 10. */
    private static void pouredHeldAt99() {
        RailsOfIce x = Worlds.still(95, 99);
        x.hours(10);
        x.turn(0, 1, 0);
        x.turn(1, 3, 9);
        x.train(60, 0, 1);
        x.weather(1, 4);
        due.is("91 is left", 0, x.pourFirst());
        due.is("91 is left", 1, x.pourFewest(0));
        x.weather(1, 5);
        due.is("89 is left", -9, x.pourFirst());
        due.is("89 is left", -9, x.pourFewest(0));
        due.is("March: 99 on 95, 89 of 99", 89, Worlds.still(95, 99).march(0));
    }

    private static void borne() {
        RailsOfIce x = Worlds.still(20, 20);
        x.train(20, 0, 1);
        x.frost(0, 19);
        x.hours(1);
        due.is("19 does not bear 20", -1, x.told(0, 3));
        x.frost(0, 20);
        x.hours(1);
        due.is("20 does", 0, x.told(0, 3));
        x.frost(1, 19);
        x.hours(1);
        due.is("on the line neither", 0, x.told(0, 3));
        x.frost(1, 20);
        x.hours(1);
        due.is("on the line too", 1, x.told(0, 3));
        x = Worlds.still(0, 99);
        x.turn(0, 3, 0);
        x.train(1, 0, 1);
        x.hours(1);
        due.is("a siding without FROST bears 1", 0, x.told(0, 3));
        x = Worlds.still(17, 99);
        x.weather(0, 3);
        x.train(20, 0, 1);
        x.hours(1);
        due.is("it FREEZES before TRAINS go", 0, x.told(0, 3));
        x = Worlds.still(23, 99);
        x.hours(10);
        x.weather(1, 4);
        x.train(20, 0, 1);
        x.hours(1);
        due.is("it MELTS before", -1, x.told(0, 3));
    }

    private static void beyondTheLine() {
        for (int many = 2; many <= 16; many += 14) {
            RailsOfIce x = new RailsOfIce();
            x.many(many);
            x.weather(1, 0);
            x.train(1, 0, 1);
            x.hours(many);
            due.is("on the last YARD", many - 1, x.told(0, 3));
            due.is("on its way", 0, x.told(0, 5));
            due.is("through by this HOUR", 1, x.hours(1));
            due.is("how", 1, x.told(0, 5));
            due.is("AT as it was last", many - 1, x.told(0, 3));
        }
    }

    private static void taken() {
        for (int kind = 0; kind <= 5; kind++) {
            RailsOfIce x = Worlds.still(99, 99);
            x.turn(0, kind, 0);
            x.train(1, 0, 1);
            x.hours(1);
            x.waits(0, 48);
            x.train(1, 0, 1);
            x.hours(1);
            due.is("one goes to another on KIND " + kind, kind == 3 || kind == 4 ? 0 : -1, x.told(1, 3));
        }
        RailsOfIce x = Worlds.still(99, 99);
        x.turn(0, 4, 0);
        for (int train = 0; train < 5; train++) {
            x.train(1, 0, 1);
        }
        x.hours(1);
        for (int train = 0; train < 5; train++) {
            due.is("all five on a halt", 0, x.told(train, 3));
        }
    }

    private static void notTaken() {
        RailsOfIce x = Worlds.still(40, 40);
        x.train(40, 0, 1);
        x.hours(1);
        x.frost(0, 19);
        x.waits(0, 1);
        x.train(1, 0, 1);
        x.hours(1);
        due.is("it is taken until the end of the HOUR", -1, x.told(1, 3));
        due.is("who is there is in the LAKE then", 2, x.told(0, 5));
        x.hours(1);
        due.is("by who is in the LAKE it is not", 0, x.told(1, 3));
        x = Worlds.still(40, 40);
        x.train(40, 0, 1);
        x.hours(3);
        x.train(1, 0, 3);
        x.hours(1);
        due.is("nor the last YARD by who is through", 1, x.told(1, 5));
    }

    private static void byNumbers() {
        RailsOfIce x = Worlds.still(40, 40, 40);
        x.train(40, 0, 1);
        x.train(40, 0, 1);
        x.hours(2);
        due.is("0 leaves the YARD", 1, x.told(0, 3));
        due.is("and 1 goes there in that HOUR", 0, x.told(1, 3));
        x = Worlds.still(40, 40, 40);
        x.train(40, 0, 1);
        x.waits(0, 1);
        x.train(40, 0, 1);
        x.hours(2);
        due.is("1 has left it", 1, x.told(1, 3));
        due.is("but behind 0, which stood", -1, x.told(0, 3));
        x.hours(1);
        due.is("an HOUR later it goes", 0, x.told(0, 3));
    }

    private static void pace() {
        for (int pace = 1; pace <= 3; pace++) {
            RailsOfIce x = Worlds.still(40, 40, 40, 40);
            x.train(40, 1, pace);
            x.hours(1);
            due.is("YARDS of PACE " + pace, pace - 1, x.told(0, 3));
            due.is("each of them lost WARMTH", 160 - pace, x.count(5));
            x.frost(pace, 39);
            x.hours(1);
            due.is("it stands", pace - 1, x.told(0, 3));
        }
        RailsOfIce x = Worlds.still(40, 40, 39, 40);
        x.train(40, 0, 3);
        x.hours(1);
        due.is("two of three, and then it stands", 1, x.told(0, 3));
        x = Worlds.still(40, 40);
        x.train(40, 0, 3);
        due.is("two and beyond in one HOUR", 1, x.hours(1));
        x = Worlds.still(40, 40);
        x.train(40, 0, 2);
        due.is("two, and not beyond", 0, x.hours(1));
    }

    private static void waits() {
        int[] waits = {0, 1, 48};
        for (int wait : waits) {
            RailsOfIce x = Worlds.still(40, 40);
            x.train(40, 0, 1);
            x.waits(0, wait);
            if (wait > 0) {
                x.hours(wait);
                due.is("it waited " + wait, -1, x.told(0, 3));
                due.is("no more", 0, x.told(0, 4));
            }
            x.hours(1);
            due.is("behind a wait of " + wait, 0, x.told(0, 3));
            due.is("not below 0", 0, x.told(0, 4));
        }
    }

    /** KIND, FIGURE, WEIGHT, and the least FROST with which it is not in the LAKE. */
    private static void halfOfWhatItWants() {
        int[][] cases = {{0, 0, 1, 0}, {0, 0, 2, 1}, {0, 0, 3, 1}, {0, 0, 59, 29}, {0, 0, 60, 30}, {1, 0, 1, 0},
            {1, 0, 3, 2}, {1, 0, 60, 45}, {2, 0, 1, 0}, {2, 9, 1, 5}, {2, 9, 60, 34}, {3, 0, 1, 0}, {3, 0, 3, 0},
            {3, 0, 4, 1}, {3, 9, 60, 15}, {4, 0, 3, 0}, {4, 0, 60, 15}, {5, 9, 60, 34}};
        for (int[] c : cases) {
            String what = "KIND " + c[0] + " FIGURE " + c[1] + " under " + c[2];
            RailsOfIce x = Worlds.still(99, 0);
            x.hours(6);
            x.turn(0, c[0], c[1]);
            x.train(c[2], 0, 1);
            x.hours(1);
            due.is("on " + what, 0, x.told(0, 3));
            x.waits(0, 9);
            x.frost(0, c[3]);
            x.hours(1);
            due.is(what + ": half", 0, x.told(0, 5));
            if (c[3] > 0) {
                x.frost(0, c[3] - 1);
                due.is(what + ": less, in mind", 2, x.trainIn(0, 1, 0));
                x.hours(1);
                due.is(what + ": less", 2, x.told(0, 5));
            }
        }
    }

    private static void whoSinks() {
        RailsOfIce x = Worlds.still(10, 99);
        x.train(10, 5, 1);
        x.hours(1);
        due.is("5 is left of 10, half", 0, x.told(0, 5));
        x = Worlds.still(10, 99);
        x.train(10, 6, 1);
        x.hours(1);
        due.is("4 is left of 10, less", 2, x.told(0, 5));
        x = Worlds.still(10, 99);
        x.train(10, 9, 2);
        x.hours(1);
        due.is("who went over it within the HOUR is not", 0, x.told(0, 5));
        due.is("but on the next", 1, x.told(0, 3));
        x = Worlds.still(10, 10);
        x.train(10, 9, 3);
        due.is("nor who is through", 1, x.hours(1));
        x = Worlds.still(10, 0);
        x.turn(0, 3, 0);
        x.train(20, 3, 1);
        x.train(10, 3, 1);
        x.hours(1);
        due.is("4 is less than 5", 2, x.told(0, 5));
        due.is("4 is no less than 2", 0, x.told(1, 5));
        x.frost(0, 1);
        x.hours(1);
        due.is("1 is", 2, x.told(1, 5));
        due.is("both", 2, x.through(0, 1));
    }

    private static void takenBackAtMost8() {
        RailsOfIce x = new RailsOfIce();
        due.is("nothing", 0, x.count(8));
        due.is("nothing", -3, x.back());
        for (int change = 1; change <= 10; change++) {
            x.frost(0, 50 + change);
            due.is("behind " + change, Math.min(8, change), x.count(8));
        }
        for (int left = 7; left >= 0; left--) {
            due.is("left", left, x.back());
            due.is("the latest first", 52 + left, x.yard(0, 2));
        }
        due.is("older ones no more", -3, x.back());
        due.is("as it was", 52, x.yard(0, 2));
        x.frost(0, 1);
        due.is("there is room again", 1, x.count(8));
        due.is("back", 0, x.back());
        due.is("FROST", 52, x.yard(0, 2));
    }

    private static RailsOfIce withPast() {
        RailsOfIce x = new RailsOfIce();
        x.image();
        x.frost(0, 41);
        x.frost(1, 42);
        return x;
    }

    private static void whatLeavesNone() {
        RailsOfIce x = withPast();
        due.is("train", 0, x.train(1, 0, 1));
        due.is("leaves none", 0, x.count(8));
        due.is("none", -3, x.back());
        x = withPast();
        due.is("many", 8, x.many(2));
        due.is("leaves none", 0, x.count(8));
        x = withPast();
        due.is("many, as many as there are", 8, x.many(8));
        due.is("leaves none", 0, x.count(8));
        x = withPast();
        due.is("a LINE", 1, Worlds.line(x, "c34;"));
        due.is("leaves none", 0, x.count(8));
        x = withPast();
        due.is("restore", 0, x.restore());
        due.is("leaves none", 0, x.count(8));
    }

    private static void whatLeavesThem() {
        RailsOfIce x = withPast();
        x.train(0, 0, 1);
        x.train(61, 0, 1);
        due.is("a train refused", 2, x.count(8));
        x.many(1);
        x.many(17);
        due.is("many refused", 2, x.count(8));
        Worlds.line(x, "n");
        due.is("a FAULT of kind 1", 2, x.count(8));
        Worlds.line(x, "n01;");
        due.is("a FAULT of kind 2", 2, x.count(8));
        x.row(1);
        x.judge(0);
        x.clear();
        x.feed('n');
        x.image();
        due.is("what is no change", 2, x.count(8));
        due.is("back", 1, x.back());
        x = new RailsOfIce();
        x.frost(0, 41);
        x.restore();
        due.is("restore refused", 1, x.count(8));
        x.train(1, 0, 1);
        x.hours(3);
        x.many(2);
        due.is("many refused by a TRAIN", 1, x.count(8));
        for (int train = 1; train < 5; train++) {
            x.train(1, 0, 1);
        }
        x.frost(0, 41);
        x.train(1, 0, 1);
        due.is("the sixth TRAIN refused", 1, x.count(8));
    }

    private static void whatCanBeTakenBack() {
        RailsOfIce x = new RailsOfIce();
        x.train(1, 0, 1);
        x.turn(7, 5, 9);
        due.is("turn", 1, x.count(8));
        x.frost(7, 99);
        due.is("frost", 2, x.count(8));
        x.waits(0, 48);
        due.is("waits", 3, x.count(8));
        x.weather(0, 9);
        due.is("weather", 4, x.count(8));
        x.hours(72);
        due.is("hours", 5, x.count(8));
        due.is("hours back", 4, x.back());
        due.is("HOUR", 0, x.count(2));
        due.is("WAITS", 48, x.told(0, 4));
        due.is("FROST", 379, x.count(5));
        due.is("weather back", 3, x.back());
        due.is("COLD", 3, x.count(3));
        due.is("waits back", 2, x.back());
        due.is("WAITS", 0, x.told(0, 4));
        due.is("frost back", 1, x.back());
        due.is("FROST", 40, x.yard(7, 2));
        due.is("turn back", 0, x.back());
        due.is("KIND", 0, x.yard(7, 0));
        due.is("FIGURE", 0, x.yard(7, 1));
    }

    /**
     * One world counts winters of COLD 1 or more, another those of NOON so high and no higher; the draws are
     * worked out by whole numbers that never wrap.
     */
    private static void drawsThatWrap() {
        int[] seeds = {0, 1, -1, 2, 12345, -12345, 65535, 65536, Integer.MAX_VALUE, Integer.MIN_VALUE,
            Integer.MIN_VALUE + 1, 1103515245, -1103515245};
        for (int seed : seeds) {
            for (int winters = 1; winters <= 20; winters++) {
                due.is("COLD of " + winters + " by " + seed, coldWinters(winters, seed),
                        atNight().lots(winters, seed, 0));
                due.is("NOON of " + winters + " by " + seed, mildWinters(winters, seed),
                        onThinIce().lots(winters, seed, 0));
                due.is("of all others it is lost", winters - mildWinters(winters, seed),
                        onThinIce().lots(winters, seed, 1));
            }
        }
    }

    /** A TRAIN of 41 on eight YARDS of 40: through by COLD 1 or more. */
    private static RailsOfIce atNight() {
        RailsOfIce x = Worlds.still40();
        x.train(41, 0, 1);
        return x;
    }

    /** A TRAIN that waits on FROST 50 from HOUR 10 to 15: 20 is left by NOON 5, and goes on then. */
    private static RailsOfIce onThinIce() {
        RailsOfIce x = Worlds.still(50, 99);
        x.turn(1, 3, 0);
        x.train(40, 0, 1);
        x.hours(1);
        x.waits(0, 15);
        x.hours(9);
        return x;
    }

    private static int coldWinters(int winters, int seed) {
        int found = 0;
        for (int winter = 0; winter < winters; winter++) {
            found += drawn(seed, 2 * winter + 1) >= 1 ? 1 : 0;
        }
        return found;
    }

    private static int mildWinters(int winters, int seed) {
        int found = 0;
        for (int winter = 0; winter < winters; winter++) {
            found += drawn(seed, 2 * winter + 2) <= 5 ? 1 : 0;
        }
        return found;
    }

    private static int drawn(int seed, int draw) {
        BigInteger all = BigInteger.ONE.shiftLeft(32);
        BigInteger z = BigInteger.valueOf(seed).mod(all);
        for (int i = 0; i < draw; i++) {
            z = z.multiply(BigInteger.valueOf(1103515245)).add(BigInteger.valueOf(12345)).mod(all);
        }
        return z.mod(BigInteger.ONE.shiftLeft(31)).divide(BigInteger.valueOf(65536)).mod(BigInteger.TEN).intValue();
    }

    /** A YARD of 39 and so many more at HOUR 10: it bears 40 by as many NOONS. */
    private static void leastTerms() {
        int[] above = {0, 1, 1, 3, 2, 1, 3, 7, 4, 9, 1};
        int[] below = {1, 10, 5, 10, 5, 2, 5, 10, 5, 10, 1};
        for (int noons = 0; noons <= 10; noons++) {
            RailsOfIce x = Worlds.still(39 + noons, 99);
            x.turn(1, 3, 0);
            x.hours(10);
            x.train(40, 0, 1);
            due.is(noons + " of 10, above", above[noons], x.noons(0, 0));
            due.is(noons + " of 10, below", below[noons], x.noons(0, 1));
            due.is("the greatest of " + noons, noons == 0 ? -9 : noons - 1, x.noon(0));
        }
    }
}
