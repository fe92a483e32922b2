/** Promises 14 to 22 and 40 to 43, 47: what would be behind hours. Answers worked out by hand. */
public final class MindTest {
    private static final Due due = new Due("MindTest");

    public static void main(String[] args) {
        frostIn();
        trainIn();
        through();
        thin();
        lasts();
        lowest();
        last();
        bestWait();
        heaviest();
        mean();
        runs();
        day();
        stands();
        standsTillTheLake();
        lots();
        due.end();
    }

    private static void frostIn() {
        RailsOfIce x = new RailsOfIce();
        int[] hours = {0, 1, 6, 10, 11, 16, 18, 24, 48, 72};
        int[] frosts = {40, 43, 58, 58, 54, 34, 34, 52, 64, 76};
        for (int i = 0; i < hours.length; i++) {
            due.is("frostIn(7, " + hours[i] + ")", frosts[i], x.frostIn(7, hours[i]));
        }
        due.is("nothing went by", 0, x.count(2));
        due.is("nothing froze", 320, x.count(5));
        due.is("no yard", -1, x.frostIn(8, -1));
        due.is("no yard", -1, x.frostIn(-1, 73));
        due.is("below", -4, x.frostIn(0, -1));
        due.is("above", -6, x.frostIn(0, 73));
        x = Worlds.still40();
        x.train(40, 3, 1);
        due.is("where a train went", 37, x.frostIn(0, 1));
        due.is("where it did not yet", 40, x.frostIn(7, 7));
        due.is("where it did", 37, x.frostIn(7, 8));
    }

    private static void trainIn() {
        RailsOfIce x = Worlds.still40();
        x.train(40, 0, 1);
        int[] hours = {0, 8, 9, 72};
        int[][] dues = {{0, -1, -9}, {0, 7, -9}, {1, 7, 9}, {1, 7, 9}};
        for (int i = 0; i < hours.length; i++) {
            for (int what = 0; what <= 2; what++) {
                due.is("trainIn(0, " + hours[i] + ", " + what + ")", dues[i][what], x.trainIn(0, hours[i], what));
            }
        }
        due.is("no train", -1, x.trainIn(1, -1, 9));
        due.is("no train", -1, x.trainIn(-1, 0, 0));
        due.is("below", -4, x.trainIn(0, -1, 9));
        due.is("above", -6, x.trainIn(0, 73, 9));
        due.is("what 3", -2, x.trainIn(0, 72, 3));
        due.is("what -1", -2, x.trainIn(0, 0, -1));
        x.hours(9);
        due.is("was through before", -9, x.trainIn(0, 72, 2));
        due.is("is through", 1, x.trainIn(0, 0, 0));
        x = Worlds.still(2, 40);
        x.train(2, 2, 1);
        x.waits(0, 3);
        due.is("in the lake", 2, x.trainIn(0, 4, 0));
        due.is("of yard 0", 0, x.trainIn(0, 4, 1));
        due.is("behind four hours", 4, x.trainIn(0, 72, 2));
        due.is("not yet", -9, x.trainIn(0, 3, 2));
    }

    private static void through() {
        RailsOfIce x = Worlds.still(40, 40, 2, 40);
        x.train(1, 0, 3);
        x.train(2, 1, 3);
        x.train(1, 1, 3);
        // 0 goes 0 1 2; 1 goes 0 1; 2 goes 0. Then 0 goes 3 and is through, 1 goes 2 3, leaving 1.
        // 1 is through within its pace, too, and 2 goes 1 2 3, leaving 0 on 2.
        due.is("none yet", 0, x.through(1, 0));
        due.is("two", 2, x.through(2, 0));
        due.is("three", 3, x.through(3, 0));
        due.is("none lost", 0, x.through(72, 1));
        due.is("below", -4, x.through(-1, 9));
        due.is("above", -6, x.through(73, 9));
        due.is("what", -2, x.through(0, 2));
        due.is("what", -2, x.through(0, -1));
        x = Worlds.still(40, 2, 2);
        x.train(2, 2, 1);
        x.train(40, 0, 1);
        due.is("lost", 1, x.through(2, 1));
        due.is("nor through", 0, x.through(72, 0));
        x.hours(2);
        due.is("lost now", 1, x.through(0, 1));
    }

    private static void thin() {
        RailsOfIce x = Worlds.still(40, 30, 20, 40);
        due.is("31", 1, x.thin(0, 31));
        due.is("30", 2, x.thin(0, 30));
        due.is("20", -9, x.thin(0, 20));
        x.turn(3, 1, 0);
        due.is("27 on a bridge wants 40", -9, x.thin(72, 20));
        due.is("order", -4, x.thin(-1, 61));
        due.is("weight 0", -4, x.thin(73, 0));
        due.is("above", -6, x.thin(73, 1));
        due.is("weight 61", -6, x.thin(0, 61));
        x = new RailsOfIce();
        due.is("behind 16 hours 34", 0, x.thin(16, 35));
        due.is("behind 15 hours 38", -9, x.thin(15, 35));
        x.weather(0, 9);
        x.weather(1, 0);
        x.turn(4, 1, 9);
        due.is("a bridge of 40 and 24", -9, x.thin(72, 60));
        due.is("64 wants 43 at most", 4, x.thin(6, 44));
        due.is("64 bears 43", -9, x.thin(6, 43));
    }

    private static void lasts() {
        RailsOfIce x = new RailsOfIce();
        due.is("41", 0, x.lasts(0, 41));
        due.is("35", 16, x.lasts(7, 35));
        due.is("34", -9, x.lasts(7, 34));
        x.weather(0, 0);
        due.is("40", 11, x.lasts(7, 40));
        due.is("16", 35, x.lasts(7, 16));
        x.train(10, 9, 1);
        due.is("a train takes 9", 3, x.lasts(2, 40));
        x.weather(1, 0);
        due.is("no yard", -1, x.lasts(8, 0));
        due.is("below", -4, x.lasts(0, 0));
        due.is("above", -6, x.lasts(0, 61));
        x = Worlds.still(40, 1);
        x.weather(1, 1);
        x.hours(11);
        x.frost(1, 19);
        due.is("behind 72 hours 1", -9, x.lasts(1, 1));
        due.is("behind the 48th hour 7, the 49th 6", 49, x.lasts(1, 7));
        x.frost(1, 18);
        due.is("behind the 72nd hour 0", 72, x.lasts(1, 1));
    }

    private static void lowest() {
        RailsOfIce x = Worlds.still(40, 10, 30, 10);
        due.is("lowest", 10, x.lowest(0, 0));
        due.is("where first", 1, x.lowest(72, 1));
        x.weather(0, 2);
        x.turn(1, 3, 5);
        due.is("behind an hour", 12, x.lowest(1, 0));
        due.is("where", 3, x.lowest(1, 1));
        due.is("below", -4, x.lowest(-1, 5));
        due.is("above", -6, x.lowest(73, 5));
        due.is("what", -2, x.lowest(72, 2));
        due.is("what", -2, x.lowest(0, -1));
    }

    /** Ice that melts from hour 10 on and freezes no more: yard 7 must be gone to in hour 9. */
    private static RailsOfIce melting() {
        RailsOfIce x = new RailsOfIce();
        x.weather(0, 0);
        x.train(40, 0, 1);
        return x;
    }

    private static void last() {
        RailsOfIce x = melting();
        due.is("last", 2, x.last(0));
        x.waits(0, 30);
        due.is("whatever it waits", 2, x.last(0));
        x.weather(1, 0);
        due.is("48 at most", 48, x.last(0));
        x.train(41, 0, 3);
        due.is("never", -9, x.last(1));
        due.is("no train", -1, x.last(2));
        due.is("no train", -1, x.last(-1));
        x.waits(0, 0);
        x.hours(1);
        due.is("on the line", -3, x.last(0));
        x.hours(8);
        due.is("through", -3, x.last(0));
        due.is("ahead", -9, x.last(1));
    }

    private static void bestWait() {
        RailsOfIce x = melting();
        due.is("0", 0, x.bestWait(0, 0));
        due.is("9 hours", 9, x.bestWait(0, 1));
        x.train(41, 0, 1);
        due.is("never", -9, x.bestWait(1, 0));
        due.is("never", -9, x.bestWait(1, 1));
        due.is("no train", -1, x.bestWait(2, 7));
        due.is("what", -2, x.bestWait(0, 2));
        due.is("what", -2, x.bestWait(0, -1));
        x.hours(1);
        due.is("what first", -2, x.bestWait(0, 2));
        due.is("on the line", -3, x.bestWait(0, 1));
        x = Worlds.still40();
        x.hours(8);
        x.weather(0, 9);
        x.weather(1, 9);
        x.train(40, 0, 1);
        // Whoever goes on before hour 10 sinks; else the ice bears 40 from hour 22 on.
        due.is("it had better wait", 2, x.bestWait(0, 0));
        due.is("till hour 30", 23, x.bestWait(0, 1));
        due.is("the next days bear", 48, x.last(0));
    }

    private static void heaviest() {
        RailsOfIce x = Worlds.still(40, 33, 50);
        x.train(1, 0, 1);
        due.is("heaviest", 33, x.heaviest(0, 0));
        x.turn(1, 1, 0);
        due.is("over a bridge", 22, x.heaviest(0, 0));
        due.is("warmest", 9, x.heaviest(0, 1));
        due.is("2 hours with 2 or 3", 2, x.heaviest(0, 2));
        x.many(4);
        due.is("2 hours with 3", 3, x.heaviest(0, 2));
        x = Worlds.still(2, 2);
        x.train(2, 0, 1);
        due.is("2 may lose 1", 1, x.heaviest(0, 1));
        x.frost(1, 0);
        for (int what = 0; what <= 2; what++) {
            due.is("never", -9, x.heaviest(0, what));
        }
        due.is("no train", -1, x.heaviest(1, 7));
        due.is("what", -2, x.heaviest(0, 3));
        due.is("what", -2, x.heaviest(0, -1));
        x.hours(1);
        due.is("on the line", -3, x.heaviest(0, 0));
        due.is("what first", -2, x.heaviest(0, 3));
    }

    private static void mean() {
        RailsOfIce x = Worlds.still(40, 41, 42, 44);
        due.is("167 over 4", 41, x.mean(0, 0));
        due.is("spread", 4, x.mean(72, 1));
        x.weather(0, 1);
        due.is("171 over 4", 42, x.mean(1, 0));
        x.many(5);
        due.is("with a fifth of 40", 41, x.mean(0, 0));
        due.is("below", -4, x.mean(-1, 4));
        due.is("above", -6, x.mean(73, 4));
        due.is("what", -2, x.mean(0, 2));
        due.is("what", -2, x.mean(0, -1));
    }

    private static void runs() {
        RailsOfIce x = Worlds.still(40, 40, 30, 40, 40, 40, 10, 40);
        due.is("run of 40", 3, x.runs(40, 0));
        due.is("from", 3, x.runs(40, 1));
        due.is("run of 30", 6, x.runs(30, 0));
        due.is("from", 0, x.runs(30, 1));
        x.frost(4, 0);
        due.is("run of 40", 2, x.runs(40, 0));
        due.is("the first of two", 0, x.runs(40, 1));
        due.is("none", 0, x.runs(41, 0));
        due.is("none", -9, x.runs(41, 1));
        due.is("all", 0, x.runs(1, 1));
        due.is("below", -4, x.runs(0, 4));
        due.is("above", -6, x.runs(61, 4));
        due.is("what", -2, x.runs(1, 2));
        due.is("what", -2, x.runs(1, -1));
    }

    private static void day() {
        RailsOfIce x = new RailsOfIce();
        due.is("96", 96, x.day());
        x.weather(0, 0);
        due.is("less", -192, x.day());
        x.train(1, 9, 1);
        due.is("trains do nothing", -192, x.day());
        x.weather(0, 9);
        x.many(2);
        due.is("94, 70, 99", 118, x.day());
        x.turn(0, 1, 0);
        due.is("a bridge: 64, 16, 40", 59, x.day());
    }

    private static void stands() {
        RailsOfIce x = Worlds.still(40, 40, 40, 30);
        x.train(40, 0, 2);
        x.train(41, 0, 1);
        x.train(30, 0, 1);
        due.is("gone in two hours", 70, x.stands(0));
        due.is("never", 72, x.stands(1));
        due.is("gone in hours 2 and 3", 70, x.stands(2));
        x.waits(1, 10);
        due.is("waiting", 62, x.stands(1));
        x.frost(3, 40);
        due.is("never stands", 0, x.stands(0));
        due.is("finds yard 0 left", 0, x.stands(2));
        x.turn(0, 0, 0);
        x.train(1, 0, 1);
        due.is("finds yard 0 taken", 1, x.stands(3));
        due.is("no train", -1, x.stands(4));
        due.is("no train", -1, x.stands(-1));
        x.hours(9);
        due.is("through", 0, x.stands(0));
    }

    /** It stands in the hour at whose end it is in the lake; in one in which it went on it does not. */
    private static void standsTillTheLake() {
        RailsOfIce x = Worlds.still(40, 10);
        x.train(40, 0, 1);
        x.hours(1);
        due.is("on yard 0", 72, x.stands(0));
        x.frost(0, 19);
        due.is("in the lake at the end", 1, x.stands(0));
        x.frost(1, 40);
        due.is("gone on", 0, x.stands(0));
        x.waits(0, 5);
        due.is("in the lake where it waits", 0, x.stands(0));
        x.hours(1);
        due.is("in the lake", 2, x.told(0, 5));
        due.is("stands no more", 0, x.stands(0));
        x.many(2);
        x.frost(0, 40);
        x.frost(1, 40);
        x.train(40, 9, 1);
        x.turn(0, 1, 0);
        due.is("never goes", 72, x.stands(1));
        x.frost(0, 60);
        x.frost(1, 28);
        // Behind it yard 0 has 51, no less than half of 60.
        due.is("stands on 0", 71, x.stands(1));
        x.waits(1, 4);
        due.is("waits four hours before", 67, x.stands(1));
        x = Worlds.still(45, 40);
        x.train(40, 9, 1);
        x.train(40, 9, 1);
        x.turn(1, 0, 0);
        due.is("goes on at once", 0, x.stands(0));
        due.is("finds 36 on yard 0", 72, x.stands(1));
    }

    private static void lots() {
        RailsOfIce x = Worlds.still40();
        x.train(41, 0, 1);
        // It is through where COLD is 1 or more. With seed 0: 0 8 8 5 .. and a second 0 as the 17th.
        due.is("one winter", 0, x.lots(1, 0, 0));
        due.is("two", 1, x.lots(2, 0, 0));
        due.is("twenty", 18, x.lots(20, 0, 0));
        due.is("a sign's bit is no matter", 18, x.lots(20, Integer.MIN_VALUE, 0));
        due.is("seed 5", 17, x.lots(20, 5, 0));
        due.is("seed 5, 13", 13, x.lots(13, 5, 0));
        due.is("none is lost", 0, x.lots(20, 7, 1));
        due.is("below", -4, x.lots(0, 0, 3));
        due.is("above", -6, x.lots(21, 0, 3));
        due.is("what", -2, x.lots(1, 0, 2));
        due.is("what", -2, x.lots(1, 0, -1));
        x = Worlds.still(40, 40, 40, 0);
        x.turn(3, 1, 0);
        x.hours(6);
        x.train(40, 0, 1);
        // It stands on yard 2 and sinks by NOON 4 or more: 8 7 7 1 0 2 8 5.
        due.is("lost", 3, x.lots(4, 0, 1));
        due.is("lost", 5, x.lots(8, 0, 1));
        due.is("not through", 0, x.lots(8, 0, 0));
        due.is("nothing went by", 6, x.count(2));
    }
}
