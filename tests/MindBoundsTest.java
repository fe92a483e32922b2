/**
 * Promises 14 to 43 and 47: the least and the greatest that are taken, just beside them, nothing there, the
 * least and the greatest answer. Worked out by hand; what questions leave as it was, too.
 */
public final class MindBoundsTest {
    private static final Due due = new Due("MindBoundsTest");

    public static void main(String[] args) {
        promise14();
        promise15();
        promise15Hours();
        promise16();
        promise17();
        promise18();
        promise19();
        promise20();
        promise21();
        promise21TheGreatest();
        promise22Weight();
        promise22Warmth();
        promise22Pace();
        promise23();
        promise24();
        promise24OfSeveral();
        promise25();
        promise26();
        promise26EveryOrder();
        promise27();
        promise27TheGreatest();
        promise27TheLater();
        promise28();
        promise29();
        promise30();
        promise31();
        promise32();
        promise33();
        promise33FiveYards();
        promise34();
        promise35();
        promise36();
        promise37();
        promise38();
        promise38TheMost();
        promise39();
        promise39Hours();
        promise39WhoHelps();
        promise40();
        promise41();
        promise42();
        promise43();
        promise47();
        nothingComesOfQuestions();
        due.end();
    }

    private static RailsOfIce sixteen() {
        int[] frosts = new int[16];
        java.util.Arrays.fill(frosts, 40);
        return Worlds.still(frosts);
    }

    private static void promise14() {
        RailsOfIce x = new RailsOfIce();
        due.is("behind 0", 40, x.frostIn(0, 0));
        due.is("behind 72", 76, x.frostIn(0, 72));
        due.is("behind -1", -4, x.frostIn(0, -1));
        due.is("behind 73", -6, x.frostIn(0, 73));
        due.is("the last YARD", 76, x.frostIn(7, 72));
        due.is("behind it", -1, x.frostIn(8, 72));
        due.is("ahead of the first", -1, x.frostIn(-1, 0));
        x.many(2);
        due.is("the second of two", 43, x.frostIn(1, 1));
        due.is("the third of two", -1, x.frostIn(2, 1));
        x.many(16);
        due.is("the sixteenth", 43, x.frostIn(15, 1));
        due.is("there is no more", -1, x.frostIn(16, 1));
    }

    private static void promise15() {
        RailsOfIce x = Worlds.still(40, 40);
        due.is("no TRAIN", -1, x.trainIn(0, 0, 0));
        x.train(41, 0, 1);
        int[] dues = {0, -1, -9};
        for (int what = 0; what <= 2; what++) {
            due.is("behind 0", dues[what], x.trainIn(0, 0, what));
            due.is("ahead behind 72", dues[what], x.trainIn(0, 72, what));
            due.is("behind -1", -4, x.trainIn(0, -1, what));
            due.is("behind 73", -6, x.trainIn(0, 73, what));
            due.is("behind the last", -1, x.trainIn(1, 0, what));
            due.is("ahead of the first", -1, x.trainIn(-1, 0, what));
        }
        due.is("what -1", -2, x.trainIn(0, 0, -1));
        due.is("what 3", -2, x.trainIn(0, 0, 3));
    }

    private static void promise15Hours() {
        RailsOfIce x = Worlds.still(40, 40);
        x.train(40, 0, 1);
        x.hours(2);
        due.is("not yet", -9, x.trainIn(0, 0, 2));
        due.is("HOUR 1, behind 1", 1, x.trainIn(0, 1, 2));
        due.is("HOUR 1, behind 72", 1, x.trainIn(0, 72, 2));
        due.is("AT as it was last", 1, x.trainIn(0, 72, 1));
        x.frost(1, 19);
        x.waits(0, 1);
        due.is("in the LAKE behind HOUR 1", 1, x.trainIn(0, 72, 2));
        due.is("how", 2, x.trainIn(0, 1, 0));
        due.is("on its way", 0, x.trainIn(0, 0, 0));
        x.hours(1);
        due.is("it was in the LAKE before", -9, x.trainIn(0, 72, 2));
        due.is("how", 2, x.trainIn(0, 0, 0));
        x = Worlds.slowFrost(6);
        due.is("HOUR 72", 72, x.trainIn(0, 72, 2));
        due.is("not behind 71", -9, x.trainIn(0, 71, 2));
        due.is("on the last YARD", 1, x.trainIn(0, 71, 1));
    }

    private static void promise16() {
        RailsOfIce x = new RailsOfIce();
        due.is("no TRAIN", 0, x.through(72, 0));
        due.is("none lost", 0, x.through(72, 1));
        due.is("behind -1", -4, x.through(-1, 0));
        due.is("behind 73", -6, x.through(73, 0));
        due.is("what -1", -2, x.through(0, -1));
        due.is("what 2", -2, x.through(0, 2));
        x = Worlds.still(99, 99);
        x.turn(0, 3, 0);
        for (int train = 0; train < 5; train++) {
            x.train(20, 0, 1);
        }
        due.is("behind 0", 0, x.through(0, 0));
        due.is("one behind 3", 1, x.through(3, 0));
        due.is("five behind 7", 5, x.through(7, 0));
        due.is("five behind 72", 5, x.through(72, 0));
        x.hours(1);
        x.frost(0, 4);
        x.frost(1, 0);
        due.is("none lost behind 0", 0, x.through(0, 1));
        due.is("five lost behind 1", 5, x.through(1, 1));
        x.hours(1);
        due.is("five lost behind 0", 5, x.through(0, 1));
    }

    private static void promise17() {
        RailsOfIce x = sixteen();
        due.is("WEIGHT 1", -9, x.thin(0, 1));
        due.is("WEIGHT 60", 0, x.thin(72, 60));
        due.is("WEIGHT 0", -4, x.thin(0, 0));
        due.is("WEIGHT 61", -6, x.thin(0, 61));
        due.is("behind -1", -4, x.thin(-1, 1));
        due.is("behind 73", -6, x.thin(73, 1));
        x.frost(15, 39);
        due.is("the last", 15, x.thin(0, 40));
        x.frost(14, 39);
        due.is("the first of two", 14, x.thin(0, 40));
        x.frost(0, 0);
        due.is("the first", 0, x.thin(0, 1));
        x.many(2);
        x.frost(0, 40);
        due.is("what is beyond is no YARD", -9, x.thin(0, 40));
    }

    private static void promise18() {
        RailsOfIce x = Worlds.still(60, 59);
        due.is("WEIGHT 60", -9, x.lasts(0, 60));
        due.is("WEIGHT 60 now", 0, x.lasts(1, 60));
        due.is("WEIGHT 61", -6, x.lasts(0, 61));
        due.is("WEIGHT 1", -9, x.lasts(1, 1));
        due.is("WEIGHT 0", -4, x.lasts(0, 0));
        due.is("behind the last YARD", -1, x.lasts(2, 1));
        due.is("ahead of the first", -1, x.lasts(-1, 1));
        x = Worlds.still(50, 50);
        x.hours(11);
        x.weather(1, 1);
        // 5, 6 and 6 HOURS of noon, and the 72nd from now is one more.
        x.frost(0, 18);
        x.frost(1, 19);
        due.is("behind 72", 72, x.lasts(0, 1));
        due.is("not by then", -9, x.lasts(1, 1));
        due.is("behind 71 it does", 1, x.frostIn(0, 71));
        x.frost(0, 0);
        due.is("FROST 0", 0, x.lasts(0, 1));
    }

    private static void promise19() {
        RailsOfIce x = sixteen();
        due.is("alike", 40, x.lowest(0, 0));
        due.is("where first", 0, x.lowest(72, 1));
        due.is("behind -1", -4, x.lowest(-1, 0));
        due.is("behind 73", -6, x.lowest(73, 0));
        due.is("what -1", -2, x.lowest(0, -1));
        due.is("what 2", -2, x.lowest(0, 2));
        x.frost(15, 0);
        due.is("0", 0, x.lowest(0, 0));
        due.is("the last", 15, x.lowest(0, 1));
        x = Worlds.still(99, 99);
        due.is("99", 99, x.lowest(72, 0));
        due.is("the first", 0, x.lowest(72, 1));
    }

    private static void promise20() {
        RailsOfIce x = new RailsOfIce();
        due.is("no TRAIN", -1, x.last(0));
        x.weather(0, 0);
        x.hours(2);
        x.train(40, 0, 1);
        due.is("YARD 7 must be gone to by HOUR 9", 0, x.last(0));
        x.train(41, 0, 1);
        due.is("never", -9, x.last(1));
        x.waits(0, 48);
        due.is("whatever it WAITS", 0, x.last(0));
        x.weather(1, 0);
        due.is("48 at most", 48, x.last(0));
        due.is("behind the last", -1, x.last(2));
        due.is("ahead of the first", -1, x.last(-1));
        x.waits(0, 0);
        x.hours(1);
        due.is("on the line", -3, x.last(0));
        x.hours(8);
        due.is("through", -3, x.last(0));
        x = Worlds.still(40, 0);
        x.train(40, 0, 1);
        x.hours(1);
        x.frost(0, 0);
        x.hours(1);
        due.is("in the LAKE", -3, x.last(0));
    }

    private static void promise21() {
        RailsOfIce x = Worlds.still(40, 40);
        due.is("no TRAIN", -1, x.bestWait(0, 0));
        x.train(40, 0, 3);
        due.is("0 at least", 0, x.bestWait(0, 0));
        due.is("1 HOUR at least", 1, x.bestWait(0, 1));
        x.train(41, 0, 3);
        due.is("never", -9, x.bestWait(1, 0));
        due.is("never", -9, x.bestWait(1, 1));
        due.is("what -1", -2, x.bestWait(0, -1));
        due.is("what 2", -2, x.bestWait(0, 2));
        due.is("behind the last", -1, x.bestWait(2, 0));
        x.hours(1);
        due.is("through", -3, x.bestWait(0, 0));
        x = Worlds.slowFrost(6);
        due.is("72 HOURS at most", 72, x.bestWait(0, 1));
        due.is("of several the least", 0, x.bestWait(0, 0));
        x = Worlds.slowFrost(5);
        due.is("73 are too many", -9, x.bestWait(0, 1));
        due.is("73 are too many", -9, x.bestWait(0, 0));
    }

    /**
     * On YARD 0 the TRAIN would be in the LAKE by noon, or at once behind noon; at HOUR 66 it freezes, and
     * who was on YARD 1 goes on.
     */
    private static void promise21TheGreatest() {
        RailsOfIce x = onlyFromHour66(17);
        due.is("49 would be it", -9, x.bestWait(1, 0));
        due.is("49 would be it", -9, x.bestWait(1, 1));
        due.is("49 would be the last", -9, x.last(1));
        x = onlyFromHour66(18);
        due.is("48 at most", 48, x.bestWait(1, 0));
        due.is("51 HOURS", 51, x.bestWait(1, 1));
        due.is("the last likewise", 48, x.last(1));
        x.frost(0, 14);
        due.is("by 1 more it is never in the LAKE", 0, x.bestWait(1, 0));
        due.is("behind who goes on", 50, x.bestWait(1, 1));
    }

    private static RailsOfIce onlyFromHour66(int hour) {
        RailsOfIce x = Worlds.still(40, 40);
        x.hours(hour - 1);
        x.train(1, 0, 2);
        x.hours(1);
        x.waits(0, 48);
        x.train(10, 9, 1);
        x.frost(0, 13);
        x.frost(1, 99);
        x.weather(0, 1);
        x.weather(1, 2);
        return x;
    }

    private static void promise22Weight() {
        RailsOfIce x = Worlds.still(90, 60);
        due.is("no TRAIN", -1, x.heaviest(0, 0));
        x.turn(0, 1, 0);
        x.train(1, 0, 1);
        due.is("60 at most", 60, x.heaviest(0, 0));
        x.frost(0, 99);
        x.frost(1, 99);
        due.is("60 at most, though 61 would be borne", 60, x.heaviest(0, 0));
        x.frost(1, 59);
        due.is("59", 59, x.heaviest(0, 0));
        x.frost(1, 1);
        due.is("1 at least", 1, x.heaviest(0, 0));
        x.frost(1, 0);
        due.is("never", -9, x.heaviest(0, 0));
        due.is("what -1", -2, x.heaviest(0, -1));
        due.is("what 3", -2, x.heaviest(0, 3));
        due.is("behind the last", -1, x.heaviest(1, 0));
    }

    private static void promise22Warmth() {
        RailsOfIce x = Worlds.still(18, 99);
        x.train(18, 0, 1);
        due.is("9 at most", 9, x.heaviest(0, 1));
        x.frost(0, 17);
        due.is("never", -9, x.heaviest(0, 1));
        // Five HOURS of noon leave 20, half of 40, till YARD 1 bears it by night.
        x = Worlds.still(45, 0);
        x.hours(11);
        x.weather(0, 9);
        x.weather(1, 5);
        x.train(40, 3, 1);
        due.is("0 at least", 0, x.heaviest(0, 1));
        x.frost(0, 44);
        due.is("by 1 less it comes by night", 9, x.heaviest(0, 1));
        x.weather(1, 6);
        x.frost(0, 49);
        due.is("19 is left by 0", -9, x.heaviest(0, 1));
    }

    private static void promise22Pace() {
        RailsOfIce x = Worlds.still(99, 10, 10);
        x.weather(0, 1);
        x.train(10, 7, 1);
        // Behind an HOUR a YARD of 11 has 4 left of it, less than 5; an HOUR later 5.
        due.is("1 at least", 1, x.heaviest(0, 2));
        x = Worlds.still(40, 40, 40, 40);
        x.train(40, 0, 1);
        due.is("3 at most", 3, x.heaviest(0, 2));
        x = Worlds.still(40, 40, 40);
        x.train(40, 0, 3);
        due.is("2 HOURS by 2 or 3: of several the least", 2, x.heaviest(0, 2));
        x.train(41, 0, 1);
        due.is("never", -9, x.heaviest(1, 2));
    }

    private static void promise23() {
        RailsOfIce x = sixteen();
        due.is("no TRAIN", -9, x.pourFirst());
        x.train(40, 0, 1);
        due.is("no more than now", -9, x.pourFirst());
        x.frost(15, 30);
        due.is("the last", 15, x.pourFirst());
        x.frost(15, 29);
        due.is("11 lack", -9, x.pourFirst());
        x.frost(15, 40);
        x.frost(0, 30);
        due.is("the first", 0, x.pourFirst());
        due.is("nothing is poured", 30, x.yard(0, 2));
        x.many(2);
        x.frost(0, 40);
        x.frost(1, 30);
        due.is("the second of two", 1, x.pourFirst());
    }

    private static void promise24() {
        RailsOfIce x = sixteen();
        due.is("no TRAIN", -1, x.pourFewest(0));
        x.train(40, 0, 1);
        due.is("none", 0, x.pourFewest(0));
        x.frost(0, 30);
        due.is("the first", 1, x.pourFewest(0));
        x.frost(0, 29);
        due.is("each once", -9, x.pourFewest(0));
        x.frost(0, 40);
        x.frost(15, 30);
        due.is("the last", 1 << 15, x.pourFewest(0));
        x.frost(14, 30);
        due.is("two", 3 << 14, x.pourFewest(0));
        x.frost(13, 30);
        due.is("three", 7 << 13, x.pourFewest(0));
        x.frost(0, 30);
        due.is("four are too many", -9, x.pourFewest(0));
        due.is("behind the last", -1, x.pourFewest(1));
        due.is("ahead of the first", -1, x.pourFewest(-1));
        x.frost(0, 40);
        x.hours(1);
        x.frost(0, 30);
        due.is("on the line", 7 << 13, x.pourFewest(0));
        x.frost(0, 0);
        x.waits(0, 1);
        x.hours(1);
        due.is("in the LAKE", -3, x.pourFewest(0));
    }

    /** Either it survives noon on YARD 0 and goes on by night, or YARD 1 bears it at once. */
    private static void promise24OfSeveral() {
        RailsOfIce x = Worlds.still(23, 16);
        x.hours(10);
        x.weather(0, 9);
        x.weather(1, 3);
        x.train(20, 0, 1);
        due.is("lost", 1, x.through(72, 1));
        x.frost(0, 33);
        due.is("by YARD 0", 1, x.through(72, 0));
        x.frost(0, 23);
        x.frost(1, 26);
        due.is("by YARD 1", 1, x.through(72, 0));
        x.frost(1, 16);
        due.is("of several the least", 1, x.pourFewest(0));
        due.is("of several the least", 0, x.pourFirst());
    }

    private static void promise25() {
        due.is("WEIGHT 60, none", 0, Worlds.still(60, 60).strongest(60));
        due.is("WEIGHT 60, one", 1, Worlds.still(60, 59).strongest(60));
        due.is("WEIGHT 60, the first", 1, Worlds.still(59, 60).strongest(60));
        due.is("WEIGHT 61", -6, Worlds.still(60, 60).strongest(61));
        due.is("WEIGHT 1, two", 2, Worlds.still(0, 0).strongest(1));
        due.is("WEIGHT 1, none", 0, Worlds.still(1, 1).strongest(1));
        due.is("WEIGHT 0", -4, Worlds.still(0, 0).strongest(0));
        due.is("20 at most", 20, Worlds.still(10, 10, 10, 10).strongest(60));
        due.is("21 are too many", -9, Worlds.still(10, 10, 10, 9).strongest(60));
        due.is("16 for as many", 16, sixteen().strongest(50));
        due.is("32 are too many", -9, sixteen().strongest(51));
    }

    private static void promise26() {
        RailsOfIce x = Worlds.still(41, 41);
        due.is("none is ahead", -9, x.order(0));
        due.is("none is through", 0, x.order(1));
        due.is("what -1", -2, x.order(-1));
        due.is("what 2", -2, x.order(2));
        x.train(41, 0, 1);
        due.is("the one", 0, x.order(0));
        due.is("it is through", 1, x.order(1));
        x.hours(1);
        due.is("it is on the line", -9, x.order(0));
        due.is("it is through", 1, x.order(1));
        x.train(42, 0, 1);
        due.is("the other", 1, x.order(0));
        x = Worlds.still(41, 41);
        for (int train = 0; train < 4; train++) {
            x.train(42, 0, 1);
        }
        due.is("of several the first", 123, x.order(0));
        due.is("none", 0, x.order(1));
        x.train(1, 0, 1);
        due.is("five are ahead", -3, x.order(0));
        due.is("five are ahead", -3, x.order(1));
        due.is("five are ahead, what", -2, x.order(2));
        x.waits(4, 48);
        x.frost(0, 42);
        x.hours(1);
        due.is("four are ahead again", 1234, x.order(0));
    }

    /** The ice is 41, 32, 23, 14 for the four, so that only the heavier before the lighter are all through. */
    private static void promise26EveryOrder() {
        int orders = 0;
        for (int order = 1234; order <= 4321; order++) {
            int[] first = {order / 1000, order / 100 % 10, order / 10 % 10, order % 10};
            int[] weights = new int[5];
            for (int i = 0; i < 4; i++) {
                if (first[i] >= 1 && first[i] <= 4) {
                    weights[first[i]] = 40 - 10 * i;
                }
            }
            if (weights[1] * weights[2] * weights[3] * weights[4] != 0) {
                orders++;
                RailsOfIce x = Worlds.still(41, 41);
                x.train(1, 0, 1);
                for (int train = 1; train <= 4; train++) {
                    x.train(weights[train], 9, 1);
                }
                due.is("five are ahead", -3, x.order(0));
                x.hours(1);
                due.is("four are ahead", -1, x.told(1, 3));
                due.is("the heavier the sooner", order, x.order(0));
                due.is("all five", 5, x.order(1));
                due.holds("but as they are", order == 1234 || x.through(72, 0) < 5);
            }
        }
        due.is("orders", 24, orders);
    }

    private static void promise27() {
        RailsOfIce x = Worlds.still(40, 40);
        due.is("no TRAIN", -1, x.timetable(0, 1));
        x.train(40, 0, 1);
        due.is("one twice", -1, x.timetable(0, 0));
        due.is("no other", -1, x.timetable(0, 1));
        due.is("no other", -1, x.timetable(1, 0));
        x.train(40, 0, 1);
        due.is("0 and 6 at least", 6, x.timetable(0, 1));
        due.is("of several the first", 6, x.timetable(1, 0));
        x.train(41, 0, 1);
        due.is("never", -9, x.timetable(0, 2));
        due.is("never", -9, x.timetable(2, 0));
        due.is("behind the last", -1, x.timetable(0, 3));
        due.is("ahead of the first", -1, x.timetable(-1, 0));
        x.waits(1, 48);
        x.hours(1);
        due.is("on the line", -3, x.timetable(0, 1));
        due.is("on the line", -3, x.timetable(1, 0));
        due.is("on the line, one twice", -1, x.timetable(0, 0));
        due.is("on the line, no TRAIN", -1, x.timetable(0, 3));
        due.is("WAITS as they are", 47, x.told(1, 4));
    }

    /** Whoever is on YARD 0 by noon is in the LAKE, unless it is light; YARD 1 is taken for 24 HOURS. */
    private static void promise27TheGreatest() {
        RailsOfIce x = Worlds.still(40, 40);
        x.hours(15);
        x.train(1, 0, 2);
        x.hours(1);
        x.waits(0, 24);
        x.train(1, 0, 2);
        x.train(20, 9, 2);
        x.turn(0, 3, 0);
        x.frost(0, 18);
        x.frost(1, 99);
        x.weather(1, 1);
        due.is("24 at most", 2400, x.timetable(2, 1));
        due.is("24 at most", 24, x.timetable(1, 2));
    }

    private static void promise27TheLater() {
        RailsOfIce x = Worlds.still(40, 40);
        x.hours(6);
        x.weather(0, 1);
        x.train(40, 5, 1);
        x.train(40, 0, 1);
        // 35 is left behind the first, and 40 again from HOUR 22 on.
        due.is("behind 17 HOURS by 0 and 6, behind 9 by 6 and 0", 600, x.timetable(0, 1));
        due.is("and the other way about", 6, x.timetable(1, 0));
        x = Worlds.slowFrost(6);
        x.train(1, 0, 1);
        due.is("the later is through in the 72nd HOUR", 6, x.timetable(0, 1));
        due.is("the later is through in the 72nd HOUR", 6, x.timetable(1, 0));
        x = Worlds.slowFrost(5);
        x.train(1, 0, 1);
        due.is("in the 73rd", -9, x.timetable(0, 1));
        due.is("in the 73rd", -9, x.timetable(1, 0));
    }

    private static void promise28() {
        RailsOfIce x = new RailsOfIce();
        due.is("an empty ROW", 1023, x.said());
        x.row(99);
        due.is("nothing known", 1023, x.said());
        x.row(0);
        due.is("0", 1, x.said());
        x.row(99);
        due.is("0 still", 1, x.said());
        x.row(1);
        due.is("0 and 1", 0, x.said());
        due.is("it stays", 4, x.count(7));
        x.clear();
        x.row(9);
        due.is("9", 512, x.said());
        x.clear();
        x.row(10);
        due.is("10 is no WARMTH", 0, x.said());
        x.clear();
        x.row(98);
        due.is("98", 0, x.said());
        x.clear();
        for (int number = 0; number < 15; number++) {
            x.row(99);
        }
        x.row(5);
        due.is("the sixteenth counts", 32, x.said());
        x.clear();
        for (int number = 0; number < 15; number++) {
            x.row(5);
        }
        x.row(6);
        due.is("the sixteenth counts", 0, x.said());
    }

    private static void promise29() {
        RailsOfIce x = new RailsOfIce();
        due.is("an empty ROW", -9, x.lies());
        x.row(99);
        due.is("nothing known", -9, x.lies());
        x.row(0);
        due.is("the first known", -9, x.lies());
        x.row(99);
        due.is("not known", -9, x.lies());
        x.row(98);
        due.is("98 is no 0", 3, x.lies());
        x.clear();
        Worlds.row(x, 98, 0, 1);
        due.is("the first of two", 1, x.lies());
        x.clear();
        for (int number = 0; number < 15; number++) {
            x.row(7);
        }
        due.is("fifteen alike", -9, x.lies());
        x.row(8);
        due.is("the sixteenth", 15, x.lies());
        due.is("it stays", 16, x.count(7));
    }

    private static void promise30() {
        RailsOfIce x = sixteen();
        due.is("alike: the first", 0, x.tells());
        x.frost(15, 39);
        due.is("the last", 15, x.tells());
        x.frost(7, 39);
        due.is("of several the first", 7, x.tells());
        x.frost(0, 39);
        due.is("the first of all", 0, x.tells());
        x.many(2);
        x.frost(1, 0);
        due.is("of two the second", 1, x.tells());
        x.frost(0, 0);
        due.is("0 and 0", 0, x.tells());
        // 98 beside 99 is 1 less; 99 beside the mean of 98 and 99, cut, is 1 more.
        due.is("of 99", 0, Worlds.still(98, 99, 99, 99).tells());
        due.is("10 less beside 60; 60 beside 65", 0, Worlds.still(50, 60, 80).tells());
        due.is("10 less; 60 beside 71", 1, Worlds.still(50, 60, 92).tells());
        due.is("15 less than 65, the mean of 60 and 71", 1, Worlds.still(60, 50, 71, 72).tells());
        due.is("39 beside 40, cut from 40 and 41", 1, Worlds.still(40, 39, 41, 41).tells());
    }

    private static void promise31() {
        RailsOfIce x = sixteen();
        due.is("none", -9, x.near(0));
        x.turn(15, 4, 0);
        due.is("15 at most", 15, x.near(0));
        due.is("0 at least", 0, x.near(15));
        due.is("behind the last", -1, x.near(16));
        due.is("ahead of the first", -1, x.near(-1));
        x.turn(0, 4, 0);
        due.is("there", 0, x.near(0));
        due.is("of both the nearer", 7, x.near(7));
        due.is("of both the nearer", 7, x.near(8));
        x.turn(3, 4, 0);
        x.turn(10, 4, 0);
        due.is("of several the nearest", 1, x.near(4));
        due.is("of several the nearest", 3, x.near(7));
        x.turn(3, 0, 0);
        x.turn(10, 0, 0);
        x.many(15);
        due.is("beyond is none", 14, x.near(14));
        x.turn(0, 0, 0);
        due.is("none is left", -9, x.near(14));
    }

    private static void promise32() {
        RailsOfIce x = sixteen();
        due.is("no TRAIN", -1, x.rescue(0));
        x.train(40, 0, 1);
        due.is("ahead of the line", -3, x.rescue(0));
        x.hours(1);
        due.is("none", -9, x.rescue(0));
        x.turn(15, 4, 0);
        due.is("the last", 15, x.rescue(0));
        x.turn(2, 4, 0);
        due.is("nearer", 2, x.rescue(0));
        x.turn(0, 4, 0);
        due.is("there", 0, x.rescue(0));
        x.hours(1);
        due.is("of both as near the lesser", 0, x.rescue(0));
        x.hours(14);
        due.is("on the last", 15, x.rescue(0));
        x.hours(1);
        due.is("through", -3, x.rescue(0));
        due.is("behind the last", -1, x.rescue(1));
        due.is("ahead of the first", -1, x.rescue(-1));
        x.train(40, 0, 1);
        x.hours(2);
        x.frost(1, 0);
        x.waits(1, 1);
        x.hours(1);
        due.is("in the LAKE of YARD 1", 0, x.rescue(1));
    }

    private static void march(String what, RailsOfIce x, int sure, int yard, int march) {
        due.is(what + ": SURE of the gang", sure, x.march(0));
        due.is(what + ": the YARD", yard, x.march(1));
        due.is(what + ": SURE of March", march, x.march(2));
        due.is("what -1", -2, x.march(-1));
        due.is("what 3", -2, x.march(3));
    }

    private static void promise33() {
        march("0 at least", Worlds.still(5, 3), 0, 0, 3);
        march("10 taken is 0", Worlds.still(10, 10), 0, 0, 10);
        march("0 of all", Worlds.still(0, 0), 0, 0, 0);
        march("99 at most", Worlds.still(99, 99), 89, 0, 99);
        march("89 poured on is 99", Worlds.still(89, 99), 89, 0, 89);
        march("two", Worlds.still(40, 30), 30, 1, 30);
    }

    private static void promise33FiveYards() {
        march("the fifth counts", Worlds.still(90, 90, 90, 90, 10, 90), 10, 4, 10);
        march("the sixth does not", Worlds.still(90, 90, 90, 90, 90, 10), 80, 0, 90);
        RailsOfIce x = Worlds.still(90, 90, 10);
        x.many(2);
        march("what is beyond does not", x, 80, 0, 90);
    }

    private static void promise34() {
        RailsOfIce x = Worlds.still(40, 40);
        due.is("no TRAIN", 4000000000000000001L, x.noons(0, 0));
        x.train(40, 0, 1);
        due.is("all", 1, x.noons(0, 0));
        due.is("of all", 1, x.noons(0, 1));
        x.train(41, 0, 1);
        due.is("none", 0, x.noons(1, 0));
        due.is("of all", 1, x.noons(1, 1));
        due.is("part -1", 4000000000000000002L, x.noons(0, -1));
        due.is("part 2", 4000000000000000002L, x.noons(0, 2));
        due.is("behind the last", 4000000000000000001L, x.noons(2, 0));
        due.is("ahead of the first", 4000000000000000001L, x.noons(-1, 1));
        x = Worlds.slowFrost(6);
        due.is("by NOON 0 alone in 72", 1, x.noons(0, 0));
        due.is("by NOON 0 alone in 72", 10, x.noons(0, 1));
        x = Worlds.slowFrost(5);
        due.is("in 73", 0, x.noons(0, 0));
    }

    private static void promise35() {
        due.is("0 at least", 0, Worlds.still(0, 0).thaw());
        due.is("never", -9, Worlds.still(1, 0).thaw());
        due.is("never", -9, Worlds.still(0, 1).thaw());
        RailsOfIce x = Worlds.still(50, 50);
        x.hours(11);
        x.weather(1, 1);
        x.frost(0, 18);
        x.frost(1, 18);
        due.is("72 at most", 72, x.thaw());
        x.frost(1, 19);
        due.is("not in 73", -9, x.thaw());
        x = Worlds.still(1, 1);
        x.hours(10);
        x.weather(1, 1);
        due.is("behind 1", 1, x.thaw());
        x = Worlds.still(1, 0);
        x.many(2);
        x.train(1, 9, 1);
        due.is("TRAINS go on", 1, x.thaw());
    }

    private static void promise36() {
        RailsOfIce x = Worlds.still(40, 40);
        due.is("no TRAIN", -1, x.noon(0));
        x.train(40, 0, 1);
        due.is("9 at most", 9, x.noon(0));
        x.hours(1);
        due.is("on the line", 9, x.noon(0));
        due.is("behind the last", -1, x.noon(1));
        due.is("ahead of the first", -1, x.noon(-1));
        x = Worlds.slowFrost(6);
        due.is("0 at least", 0, x.noon(0));
        x = Worlds.slowFrost(5);
        due.is("never", -9, x.noon(0));
    }

    private static void promise37() {
        RailsOfIce x = Worlds.still(40, 40);
        due.is("no TRAIN", -1, x.needed(0, 0));
        x.train(40, 0, 1);
        due.is("40", 40, x.needed(0, 0));
        due.is("40", 40, x.needed(1, 0));
        due.is("behind the last YARD", -1, x.needed(2, 0));
        due.is("ahead of the first", -1, x.needed(-1, 0));
        due.is("behind the last TRAIN", -1, x.needed(0, 1));
        due.is("ahead of the first", -1, x.needed(0, -1));
        due.is("neither", -1, x.needed(2, 1));
        x.hours(2);
        due.is("0 at least", 0, x.needed(0, 0));
        x = Worlds.still(40, 99);
        x.turn(0, 2, 9);
        x.turn(1, 3, 0);
        x.hours(10);
        x.weather(1, 9);
        x.train(60, 0, 1);
        x.waits(0, 6);
        due.is("99 at most: 69 is left", 99, x.needed(0, 0));
        x.weather(1, 4);
        due.is("69, and no noon", 69, x.needed(0, 0));
        x.frost(1, 0);
        due.is("the other lacks it", -9, x.needed(0, 0));
        x = Worlds.still(40, 99);
        x.turn(0, 1, 0);
        x.turn(1, 3, 0);
        x.hours(10);
        x.weather(1, 5);
        x.train(60, 0, 1);
        due.is("a bridge that wants 90 and melts 10: 100 is too much", -9, x.needed(0, 0));
        x.weather(1, 4);
        due.is("and melts 8", 98, x.needed(0, 0));
    }

    private static void promise38() {
        RailsOfIce x = sixteen();
        x.turn(15, 1, 0);
        due.is("no TRAIN", -9, x.key());
        x.train(40, 0, 1);
        due.is("the last", 15, x.key());
        x.frost(15, 60);
        due.is("no more than now", -9, x.key());
        x.turn(0, 2, 1);
        due.is("the first", 0, x.key());
        x.frost(0, 39);
        due.is("FROST as it is", -9, x.key());
        x.turn(0, 0, 0);
        due.is("a plain one is no key", -9, x.key());
        due.is("nothing is turned", 1, x.yard(15, 0));
        x = Worlds.still(29, 38);
        x.turn(0, 1, 0);
        x.turn(1, 2, 9);
        x.weather(0, 9);
        x.train(29, 0, 1);
        due.is("it is through anyhow", -9, x.key());
    }

    /** Two TRAINS stand ahead of YARD 1, one ahead of YARD 3. */
    private static void promise38TheMost() {
        RailsOfIce x = Worlds.still(50, 50, 50, 50);
        x.train(40, 0, 1);
        x.hours(3);
        x.train(38, 0, 1);
        x.train(36, 0, 1);
        x.turn(2, 3, 0);
        x.frost(0, 40);
        x.turn(1, 2, 5);
        x.frost(1, 42);
        x.turn(3, 2, 3);
        x.frost(3, 41);
        due.is("none is through", 0, x.through(72, 0));
        due.is("two by YARD 1, one by YARD 3", 1, x.key());
        x.waits(1, 48);
        due.is("one is through now", 1, x.through(72, 0));
        due.is("two by either: the least", 1, x.key());
        x.turn(3, 2, 4);
        due.is("by YARD 1 no other, as it stands on the siding then", 3, x.key());
    }

    private static void promise39Hours() {
        RailsOfIce x = Worlds.slowFrost(6);
        x.train(1, 1, 1);
        due.is("without it the other is through in the 72nd HOUR", 1, x.blocker());
        x = Worlds.slowFrost(5);
        x.train(1, 1, 1);
        due.is("in the 73rd", -9, x.blocker());
        x = Worlds.still(42, 42);
        x.train(1, 1, 1);
        x.train(1, 1, 1);
        x.train(41, 0, 1);
        due.is("of several the least", 0, x.blocker());
        x = Worlds.still(40, 40);
        x.train(40, 1, 1);
        x.train(40, 1, 1);
        due.is("not more than now, but another", 0, x.blocker());
        x.train(38, 0, 1);
        due.is("39 and 38 are borne as they are but one", 0, x.blocker());
    }

    /** Ahead of X the other goes to YARD 1 by noon, and is lost there; behind it, by night. */
    private static void promise39WhoHelps() {
        RailsOfIce x = Worlds.still(99, 40, 40);
        x.hours(8);
        x.train(1, 0, 2);
        x.hours(1);
        x.waits(0, 13);
        x.train(20, 0, 1);
        x.hours(1);
        x.turn(0, 3, 0);
        x.frost(1, 23);
        x.frost(2, 0);
        x.weather(0, 9);
        x.weather(1, 3);
        due.is("X is on YARD 1", 1, x.told(0, 3));
        due.is("both are through", 2, x.through(72, 0));
        due.is("without X none were, so it is none", -9, x.blocker());
        x = Worlds.still(50, 50);
        x.train(1, 5, 1);
        x.train(1, 1, 1);
        x.train(45, 0, 1);
        x.train(46, 0, 1);
        due.is("two are through", 2, x.through(72, 0));
        due.is("without 0 three others are, without 1 two", 0, x.blocker());
    }

    private static void promise39() {
        RailsOfIce x = Worlds.still(40, 40, 20);
        due.is("no TRAIN", -9, x.blocker());
        x.train(1, 0, 1);
        due.is("no other", -9, x.blocker());
        for (int train = 1; train <= 3; train++) {
            x.train(1, 0, 1);
        }
        due.is("all are through", -9, x.blocker());
        for (int train = 0; train <= 3; train++) {
            x.waits(train, 48);
        }
        x.train(40, 0, 1);
        x.hours(2);
        due.is("the last is in the way", 4, x.blocker());
        x.frost(1, 19);
        x.waits(4, 1);
        x.hours(1);
        due.is("in the LAKE it is not", -9, x.blocker());
        x = Worlds.still(40, 40, 20);
        x.train(40, 0, 1);
        x.hours(1);
        x.train(20, 0, 1);
        due.is("the first", 0, x.blocker());
        due.is("nothing is taken away", 0, x.told(0, 5));
    }

    private static void promise40() {
        RailsOfIce x = Worlds.still(0, 0);
        due.is("0 at least", 0, x.mean(0, 0));
        due.is("0 at least", 0, x.mean(72, 1));
        x.frost(1, 99);
        due.is("99 over 2, cut", 49, x.mean(0, 0));
        due.is("99 at most", 99, x.mean(72, 1));
        x.frost(0, 99);
        due.is("99 at most", 99, x.mean(72, 0));
        due.is("alike", 0, x.mean(0, 1));
        due.is("behind -1", -4, x.mean(-1, 0));
        due.is("behind 73", -6, x.mean(73, 0));
        due.is("what -1", -2, x.mean(0, -1));
        due.is("what 2", -2, x.mean(0, 2));
        x = sixteen();
        x.frost(15, 55);
        due.is("15 over 16, cut", 40, x.mean(0, 0));
        x.frost(15, 56);
        due.is("16 over 16", 41, x.mean(0, 0));
        due.is("the last is the greatest", 16, x.mean(0, 1));
        x.frost(0, 99);
        due.is("the first is the greatest", 59, x.mean(0, 1));
        x.frost(0, 0);
        due.is("the first is the least", 56, x.mean(0, 1));
    }

    private static void promise41() {
        RailsOfIce x = sixteen();
        due.is("all", 16, x.runs(1, 0));
        due.is("all", 0, x.runs(1, 1));
        due.is("none", 0, x.runs(60, 0));
        due.is("none", -9, x.runs(60, 1));
        due.is("WEIGHT 0", -4, x.runs(0, 0));
        due.is("WEIGHT 61", -6, x.runs(61, 0));
        due.is("what -1", -2, x.runs(1, -1));
        due.is("what 2", -2, x.runs(1, 2));
        x.frost(15, 41);
        due.is("the last alone", 1, x.runs(41, 0));
        due.is("the last alone", 15, x.runs(41, 1));
        x.frost(0, 41);
        due.is("of two the first", 0, x.runs(41, 1));
        x.frost(14, 41);
        due.is("two at the end", 2, x.runs(41, 0));
        due.is("two at the end", 14, x.runs(41, 1));
        x.many(15);
        due.is("beyond is none", 1, x.runs(41, 0));
        due.is("beyond is none", 0, x.runs(41, 1));
    }

    private static void promise42() {
        RailsOfIce x = Worlds.still(40, 40);
        due.is("alike", 0, x.day());
        x.weather(1, 9);
        due.is("54 would melt, 40 do", -80, x.day());
        x.weather(0, 9);
        x.weather(1, 0);
        due.is("108 would freeze, 59 do", 118, x.day());
        x.frost(0, 99);
        x.frost(1, 99);
        due.is("99 at most", 0, x.day());
        Worlds.toHour(x, 999);
        due.is("beyond HOUR 999", 0, x.day());
        x.weather(1, 1);
        x.weather(0, 0);
        due.is("HOUR 999 melts, and five of the next day", -12, x.day());
        x = Worlds.still(40, 40);
        x.train(1, 9, 1);
        due.is("without any TRAIN", 0, x.day());
        promise42LikeRefusals();
    }

    /** Frost that melts whole, so that what is less looks like a refusal, and is none. */
    private static void promise42LikeRefusals() {
        RailsOfIce x = Worlds.still(0, 0);
        x.weather(1, 1);
        for (int less = 1; less <= 9; less++) {
            x.frost(0, less / 2);
            x.frost(1, less - less / 2);
            due.is(less + " less", -less, x.day());
        }
        for (int what = 11; what <= 16; what++) {
            due.is("no refusal " + (10 - what), 0, x.count(what));
        }
    }

    private static void promise43() {
        RailsOfIce x = Worlds.still(40, 40);
        due.is("no TRAIN", -1, x.stands(0));
        x.train(40, 0, 1);
        x.train(41, 0, 1);
        due.is("0 at least", 0, x.stands(0));
        due.is("72 at most", 72, x.stands(1));
        x.waits(1, 48);
        due.is("but it WAITS 48", 24, x.stands(1));
        due.is("behind the last", -1, x.stands(2));
        due.is("ahead of the first", -1, x.stands(-1));
        x.hours(3);
        due.is("through", 0, x.stands(0));
        due.is("45 are left", 27, x.stands(1));
        x = Worlds.slowFrost(5);
        // It goes in the 71st HOUR and the 72nd.
        due.is("till the 70th", 70, x.stands(0));
    }

    private static void promise47() {
        RailsOfIce x = Worlds.still(0, 0);
        due.is("no TRAIN", 0, x.lots(20, 1, 0));
        due.is("none is lost", 0, x.lots(20, 1, 1));
        due.is("no winter", -4, x.lots(0, 1, 0));
        due.is("21", -6, x.lots(21, 1, 0));
        due.is("what -1", -2, x.lots(1, 1, -1));
        due.is("what 2", -2, x.lots(1, 1, 2));
        x.turn(0, 3, 0);
        x.turn(1, 3, 0);
        for (int train = 0; train < 5; train++) {
            x.train(1, 0, 1);
        }
        due.is("five by a winter", 5, x.lots(1, 1, 0));
        due.is("five by each of twenty", 100, x.lots(20, 1, 0));
        x.waits(4, 45);
        due.is("through by the 48th HOUR", 5, x.lots(1, 1, 0));
        x.waits(4, 46);
        due.is("by the 49th", 4, x.lots(1, 1, 0));
        due.is("COLD is as it was", 0, x.count(3));
        due.is("NOON is as it was", 0, x.count(4));
        x = Worlds.still(40, 40);
        x.turn(0, 3, 0);
        for (int train = 0; train < 5; train++) {
            x.train(60, 0, 1);
        }
        x.hours(1);
        x.frost(0, 14);
        x.frost(1, 0);
        x.hours(1);
        due.is("five are in the LAKE", 5, x.through(0, 1));
        due.is("of each winter again", 100, x.lots(20, Integer.MIN_VALUE, 1));
        due.is("none through", 0, x.lots(20, Integer.MAX_VALUE, 0));
    }

    private static void nothingComesOfQuestions() {
        RailsOfIce x = Worlds.rich();
        for (int what = 0; what <= 1; what++) {
            x.through(72, what);
            x.lowest(72, what);
            x.mean(72, what);
            x.bestWait(3, what);
            x.order(what);
            x.noons(3, what);
            x.runs(1, what);
            x.lots(20, 5, what);
        }
        for (int what = 0; what <= 2; what++) {
            x.heaviest(3, what);
            x.march(what);
            x.trainIn(3, 72, what);
        }
        x.frostIn(0, 72);
        x.thin(72, 60);
        x.lasts(0, 1);
        x.last(3);
        x.pourFirst();
        x.pourFewest(3);
        x.strongest(60);
        x.said();
        x.lies();
        x.tells();
        x.near(0);
        x.rescue(1);
        x.thaw();
        x.noon(3);
        x.needed(0, 3);
        x.key();
        x.blocker();
        x.day();
        x.stands(3);
        due.same("what there is behind questions", Whole.of(Worlds.rich(), 0), Whole.of(x, 0));
        x = Worlds.full();
        x.timetable(0, 4);
        due.same("what there is behind a timetable", Whole.of(Worlds.full(), 0), Whole.of(x, 0));
    }
}
