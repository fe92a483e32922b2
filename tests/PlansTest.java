/** Promises 23 to 39: pouring, orders, what was said, March, odds. Answers worked out by hand. */
public final class PlansTest {
    private static final Due due = new Due("PlansTest");

    public static void main(String[] args) {
        pourFirst();
        pourFewest();
        strongest();
        order();
        timetable();
        said();
        lies();
        tells();
        near();
        rescue();
        march();
        noons();
        thaw();
        noon();
        needed();
        key();
        blocker();
        blockerOfOthers();
        due.end();
    }

    private static void pourFirst() {
        RailsOfIce x = Worlds.still(40, 40, 30, 40);
        due.is("no trains", -9, x.pourFirst());
        x.train(40, 0, 1);
        due.is("10 lack", 2, x.pourFirst());
        x.frost(2, 29);
        due.is("11 lack", -9, x.pourFirst());
        x.frost(2, 40);
        due.is("no more than now", -9, x.pourFirst());
        x.train(50, 0, 1);
        x.frost(2, 50);
        x.frost(1, 50);
        x.frost(3, 50);
        due.is("the heavier too", 0, x.pourFirst());
        x.frost(3, 40);
        due.is("two lack it", -9, x.pourFirst());
        due.is("nothing is poured", 180, x.count(5));
    }

    private static void pourFewest() {
        RailsOfIce x = Worlds.still(40, 30, 40, 30, 40);
        x.train(40, 0, 1);
        due.is("two", 10, x.pourFewest(0));
        x.frost(0, 30);
        due.is("three", 11, x.pourFewest(0));
        x.frost(4, 30);
        due.is("four are too many", -9, x.pourFewest(0));
        x.frost(0, 40);
        x.frost(1, 40);
        x.frost(3, 40);
        due.is("one", 16, x.pourFewest(0));
        x.frost(4, 40);
        due.is("none", 0, x.pourFewest(0));
        x.frost(4, 20);
        due.is("each once", -9, x.pourFewest(0));
        due.is("no train", -1, x.pourFewest(1));
        due.is("no train", -1, x.pourFewest(-1));
        x.hours(2);
        x.frost(4, 30);
        x.frost(0, 0);
        due.is("on the line, the ice behind it is no matter", 16, x.pourFewest(0));
        x.frost(4, 40);
        x.hours(4);
        due.is("not on its way", -3, x.pourFewest(0));
    }

    private static void strongest() {
        RailsOfIce x = Worlds.still(40, 30);
        due.is("one", 1, x.strongest(40));
        due.is("none", 0, x.strongest(30));
        due.is("three", 3, x.strongest(41));
        x = Worlds.still(10, 10, 10, 10);
        due.is("20", 20, x.strongest(60));
        x.frost(3, 9);
        due.is("21 are too many", -9, x.strongest(60));
        due.is("below", -4, x.strongest(0));
        due.is("above", -6, x.strongest(61));
        x = Worlds.still(40, 30, 95);
        x.turn(0, 1, 0);
        // 30 40 40 50 50 60 are poured on before the bridge of 60 bears 40.
        due.is("the weakest first though it bears", 4, x.strongest(40));
        x.many(2);
        x.turn(1, 2, 9);
        x.frost(0, 85);
        x.frost(1, 59);
        due.is("a curve of 69", 1, x.strongest(56));
        due.is("69 79 89, and then a bridge of 85 that wants 90", 4, x.strongest(60));
    }

    private static void order() {
        RailsOfIce x = Worlds.still(40, 40, 45, 40);
        due.is("none", -9, x.order(0));
        due.is("none through", 0, x.order(1));
        x.train(40, 5, 1);
        due.is("the one", 0, x.order(0));
        due.is("it is through", 1, x.order(1));
        x.train(40, 0, 1);
        due.is("who warms had better go last", 10, x.order(0));
        due.is("two", 2, x.order(1));
        x.train(35, 0, 1);
        due.is("of several the first", 102, x.order(0));
        due.is("three", 3, x.order(1));
        x.train(35, 0, 1);
        due.is("four", 1023, x.order(0));
        due.is("what", -2, x.order(2));
        due.is("what", -2, x.order(-1));
        x.train(60, 0, 1);
        due.is("five are too many", -3, x.order(0));
        due.is("what first", -2, x.order(2));
        x = Worlds.still(50, 40);
        x.train(50, 0, 1);
        x.hours(1);
        x.train(40, 6, 1);
        x.train(40, 0, 1);
        due.is("on the line", 0, x.told(0, 3));
        due.is("it keeps its number", 12, x.order(0));
        due.is("and stands in the way", 0, x.order(1));
        x.frost(1, 50);
        due.is("of 50 as good", 12, x.order(0));
        due.is("all", 3, x.order(1));
        x.frost(1, 45);
        due.is("still in the way", 0, x.order(1));
        x = Worlds.still(50, 40);
        x.train(40, 5, 1);
        x.hours(4);
        due.is("none ahead", -9, x.order(0));
        due.is("one is through", 1, x.order(1));
        x.train(30, 9, 1);
        x.train(30, 0, 1);
        due.is("30 on 35", 21, x.order(0));
        due.is("with who was through", 3, x.order(1));
        x = Worlds.still(40, 40);
        x.train(40, 9, 1);
        x.train(40, 0, 1);
        x.waits(1, 48);
        due.is("waits go with the train", 1, x.order(1));
        x.waits(0, 48);
        due.is("so it goes first again", 10, x.order(0));
    }

    private static void timetable() {
        RailsOfIce x = Worlds.still40();
        x.train(40, 0, 1);
        x.train(40, 0, 1);
        due.is("0 and 6", 6, x.timetable(0, 1));
        due.is("the other way about", 6, x.timetable(1, 0));
        x.train(40, 5, 1);
        due.is("who warms later", 600, x.timetable(2, 0));
        due.is("who warms second", 6, x.timetable(0, 2));
        due.is("one twice", -1, x.timetable(0, 0));
        due.is("no train", -1, x.timetable(0, 3));
        due.is("no train", -1, x.timetable(-1, 0));
        x.waits(0, 1);
        x.waits(2, 1);
        x.hours(1);
        due.is("on the line", -3, x.timetable(1, 0));
        due.is("on the line", -3, x.timetable(0, 1));
        due.is("no train first", -1, x.timetable(1, 7));
        due.is("none first", -1, x.timetable(1, 1));
        x = Worlds.still40();
        x.train(40, 0, 1);
        x.train(41, 0, 1);
        due.is("one is never through", -9, x.timetable(0, 1));
        due.is("nor then", -9, x.timetable(1, 0));
    }

    private static void said() {
        RailsOfIce x = new RailsOfIce();
        int[][] rows = {{}, {99}, {3}, {99, 3, 3, 99}, {3, 4}, {10}, {0}, {9, 9, 9}, {98}, {0, 99, 9}};
        int[] dues = {1023, 1023, 8, 8, 0, 0, 1, 512, 0, 0};
        for (int i = 0; i < rows.length; i++) {
            x.clear();
            Worlds.row(x, rows[i]);
            due.is("said " + i, dues[i], x.said());
            due.is("it stays", rows[i].length, x.count(7));
        }
    }

    private static void lies() {
        RailsOfIce x = new RailsOfIce();
        int[][] rows = {{}, {99, 99}, {5}, {5, 5, 5}, {5, 6, 7}, {99, 3, 99, 3, 4, 5}, {50, 99, 51}};
        int[] dues = {-9, -9, -9, -9, 1, 4, 2};
        for (int i = 0; i < rows.length; i++) {
            x.clear();
            Worlds.row(x, rows[i]);
            due.is("lies " + i, dues[i], x.lies());
            due.is("it stays", rows[i].length, x.count(7));
        }
    }

    private static void tells() {
        due.is("38", 2, Worlds.still(40, 40, 38, 40).tells());
        due.is("the mean is cut", 0, Worlds.still(40, 40, 40, 41).tells());
        due.is("cut to below", 0, Worlds.still(40, 41, 41, 42).tells());
        due.is("at the end the one", 3, Worlds.still(40, 40, 40, 39).tells());
        due.is("at the beginning", 0, Worlds.still(39, 40, 40, 40).tells());
        due.is("of several the first", 1, Worlds.still(40, 30, 40, 30, 40).tells());
        due.is("two", 1, Worlds.still(40, 39).tells());
        RailsOfIce x = Worlds.still(40, 40, 40, 40);
        x.many(3);
        x.frost(1, 50);
        due.is("both ends", 0, x.tells());
    }

    private static void near() {
        RailsOfIce x = new RailsOfIce();
        due.is("none", -9, x.near(0));
        x.turn(3, 3, 0);
        due.is("a siding is none", -9, x.near(3));
        x.turn(2, 4, 0);
        x.turn(6, 4, 9);
        int[] steps = {2, 1, 0, 1, 2, 1, 0, 1};
        for (int yard = 0; yard < 8; yard++) {
            due.is("near " + yard, steps[yard], x.near(yard));
        }
        due.is("no yard", -1, x.near(8));
        due.is("no yard", -1, x.near(-1));
        x.many(6);
        due.is("beyond is none", 3, x.near(5));
    }

    private static void rescue() {
        RailsOfIce x = Worlds.still40();
        x.train(40, 0, 1);
        due.is("ahead", -3, x.rescue(0));
        x.hours(5);
        due.is("on 4, none", -9, x.rescue(0));
        x.turn(6, 4, 0);
        due.is("6", 6, x.rescue(0));
        x.turn(2, 4, 0);
        due.is("of both the lesser", 2, x.rescue(0));
        x.turn(4, 4, 0);
        due.is("there", 4, x.rescue(0));
        due.is("no train", -1, x.rescue(1));
        x.frost(4, 0);
        x.waits(0, 1);
        x.hours(1);
        due.is("in the lake", 2, x.told(0, 5));
        due.is("in the lake, there", 4, x.rescue(0));
        x.many(4);
        due.is("in the lake, beyond", 2, x.rescue(0));
        x = Worlds.still40();
        x.turn(7, 4, 0);
        x.train(40, 0, 3);
        x.hours(3);
        due.is("through", -3, x.rescue(0));
    }

    private static void march() {
        int[][] frosts = {{40, 30, 50, 60, 70, 0}, {5, 99}, {40, 40, 40, 40, 40, 0}, {0, 0, 0}, {95, 99, 99},
            {50, 20, 20, 50}};
        int[][] dues = {{30, 1, 30}, {5, 0, 5}, {30, 0, 40}, {0, 0, 0}, {89, 0, 95}, {10, 0, 20}};
        for (int i = 0; i < frosts.length; i++) {
            RailsOfIce x = Worlds.still(frosts[i]);
            for (int what = 0; what <= 2; what++) {
                due.is("march " + i + " " + what, dues[i][what], x.march(what));
            }
            due.is("what", -2, x.march(3));
            due.is("what", -2, x.march(-1));
        }
    }

    /** Behind a wait of 4, yard 7 is gone to in hour 11, behind two noons of melting. */
    private static RailsOfIce atNoon() {
        RailsOfIce x = new RailsOfIce();
        x.weather(0, 0);
        x.train(38, 0, 1);
        x.waits(0, 4);
        return x;
    }

    private static void noons() {
        RailsOfIce x = atNoon();
        due.is("2 of 10 above", 1, x.noons(0, 0));
        due.is("2 of 10 below", 5, x.noons(0, 1));
        x.waits(0, 3);
        due.is("3 of 10 above", 3, x.noons(0, 0));
        due.is("3 of 10 below", 10, x.noons(0, 1));
        x.waits(0, 0);
        due.is("all above", 1, x.noons(0, 0));
        due.is("all below", 1, x.noons(0, 1));
        x.frost(3, 1);
        due.is("none above", 0, x.noons(0, 0));
        due.is("none below", 1, x.noons(0, 1));
        due.is("no train", 4000000000000000001L, x.noons(1, 5));
        due.is("no train", 4000000000000000001L, x.noons(-1, 0));
        due.is("part", 4000000000000000002L, x.noons(0, 2));
        due.is("part", 4000000000000000002L, x.noons(0, -1));
        due.is("-1s", 2, x.count(11));
        due.is("-2s", 2, x.count(12));
        due.is("noon is as it was", 4, x.count(4));
        x.frost(3, 40);
        x.hours(9);
        due.is("through already", 1, x.noons(0, 0));
    }

    private static void thaw() {
        RailsOfIce x = new RailsOfIce();
        due.is("never", -9, x.thaw());
        x.weather(0, 0);
        x.weather(1, 9);
        due.is("behind hour 14", 15, x.thaw());
        x.turn(4, 3, 0);
        due.is("a siding bears 1 ever", -9, x.thaw());
        x.turn(4, 2, 1);
        due.is("a curve of 1 wants 2", 15, x.thaw());
        x = Worlds.still(0, 0);
        due.is("now", 0, x.thaw());
        x = Worlds.still(9, 9);
        x.weather(1, 1);
        x.hours(11);
        x.frost(0, 18);
        x.frost(1, 18);
        due.is("behind the 72nd hour", 72, x.thaw());
        x.frost(1, 19);
        due.is("not by then", -9, x.thaw());
        x = Worlds.still(9, 9);
        x.train(9, 9, 1);
        due.is("it sinks with the first", -9, x.thaw());
        x.train(1, 9, 1);
        x.frost(0, 18);
        due.is("a train takes what bears", 2, x.thaw());
    }

    private static void noon() {
        RailsOfIce x = atNoon();
        due.is("1", 1, x.noon(0));
        x.waits(0, 3);
        due.is("2", 2, x.noon(0));
        x.waits(0, 0);
        due.is("9", 9, x.noon(0));
        x.frost(3, 37);
        due.is("never", -9, x.noon(0));
        due.is("no train", -1, x.noon(1));
        due.is("no train", -1, x.noon(-1));
        due.is("noon is as it was", 4, x.count(4));
    }

    private static void needed() {
        RailsOfIce x = Worlds.still40();
        x.train(40, 0, 1);
        x.train(1, 0, 1);
        due.is("40", 40, x.needed(3, 0));
        x.turn(3, 1, 0);
        due.is("a bridge", 60, x.needed(3, 0));
        due.is("other yards lack", -9, x.needed(2, 0));
        due.is("the other is blocked without", 60, x.needed(3, 1));
        x.turn(3, 0, 0);
        x.waits(0, 48);
        due.is("it goes first", 1, x.needed(3, 1));
        due.is("no yard", -1, x.needed(8, 0));
        due.is("no yard", -1, x.needed(-1, 0));
        due.is("no train", -1, x.needed(0, 2));
        due.is("no train", -1, x.needed(0, -1));
        due.is("both", -1, x.needed(99, 99));
        due.is("counted once each", 5, x.count(11));
        x.waits(0, 0);
        x.hours(9);
        due.is("through already", 0, x.needed(0, 0));
    }

    private static void key() {
        RailsOfIce x = Worlds.still40();
        x.turn(3, 1, 0);
        due.is("no trains", -9, x.key());
        x.train(40, 0, 1);
        due.is("the bridge", 3, x.key());
        x.turn(5, 2, 1);
        due.is("the curve too", -9, x.key());
        x.turn(3, 0, 0);
        due.is("the curve", 5, x.key());
        x.turn(5, 3, 9);
        due.is("no more than now", -9, x.key());
        x.turn(5, 2, 1);
        x.frost(5, 39);
        due.is("frost as it is", -9, x.key());
        due.is("nothing is turned", 21, x.turn(5, 0, 0));
    }

    private static void blocker() {
        RailsOfIce x = Worlds.still(40, 40, 20, 40);
        x.train(40, 0, 1);
        due.is("there are no others", -9, x.blocker());
        x.train(20, 0, 1);
        x.train(10, 0, 1);
        due.is("who stands on 1", 0, x.blocker());
        x.frost(2, 40);
        due.is("no more than now", -9, x.blocker());
        x.frost(2, 20);
        x.hours(3);
        due.is("on the line", 0, x.blocker());
        x.frost(1, 19);
        due.is("it sinks, and then the next is not borne", 1, x.blocker());
        x.hours(1);
        due.is("in the lake", 2, x.told(0, 5));
        due.is("so it is none that could be taken away", 1, x.blocker());
        x = Worlds.still(40, 15, 40, 10, 40);
        x.train(10, 0, 1);
        x.hours(4);
        x.frost(4, 9);
        x.train(15, 0, 1);
        x.train(5, 0, 1);
        due.is("two stand: the first alone frees none", -9, x.blocker());
        x = Worlds.still(10, 40, 20, 20);
        x.train(30, 0, 1);
        x.train(10, 0, 1);
        due.is("ahead of the line it blocks none", -9, x.blocker());
    }

    /** The others of a train are compared with these same others now, and of all most are wanted. */
    private static void blockerOfOthers() {
        RailsOfIce x = Worlds.still(40, 40, 49);
        x.train(40, 1, 1);
        x.train(40, 0, 1);
        due.is("one is through now", 1, x.through(72, 0));
        due.is("one is through without it, but another", 0, x.blocker());
        x.waits(0, 48);
        due.is("who comes later hinders none", -9, x.blocker());
        x = Worlds.still(40, 42);
        x.train(40, 2, 1);
        x.train(42, 0, 1);
        x.train(38, 0, 1);
        x.train(42, 0, 1);
        due.is("two are through", 2, x.through(72, 0));
        due.is("by 42, who is not borne, all stay as they were", -9, x.blocker());
        x.frost(0, 42);
        // Train 0 takes 2 off both yards: without it all three others go, with it train 2 alone.
        due.is("two are through", 2, x.through(72, 0));
        due.is("three without 0", 0, x.blocker());
        x = Worlds.still(42, 42);
        x.train(1, 1, 1);
        x.train(1, 1, 1);
        x.train(41, 0, 1);
        due.is("without 0 or 1 both others are through: the least", 0, x.blocker());
        x = Worlds.still(50, 49);
        x.train(1, 2, 1);
        x.train(49, 2, 1);
        x.train(48, 0, 1);
        x.train(47, 0, 1);
        // Without 0 one more of the others is through (1, who stands for it), without 2 too (3), but
        // then two others are through altogether.
        due.is("most others", 2, x.blocker());
    }
}
