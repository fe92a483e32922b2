/**
 * Promises 1, 4 to 13, 44 to 46, 48 to 50: the least and the greatest that are taken, just beside them,
 * nothing there, all full. Worked out by hand; what refusals leave as it was is looked at in RefusedTest.
 */
public final class BoundsTest {
    private static final Due due = new Due("BoundsTest");

    public static void main(String[] args) {
        promise1();
        promise4();
        promise5();
        promise6();
        promise7();
        promise8();
        promise8WithTrains();
        promise9();
        promise10();
        promise11();
        promise12();
        promise12UpTo999();
        promise12NewlyThrough();
        promise13();
        promise44();
        promise45();
        promise46();
        promise48();
        promise49();
        promise50();
        due.end();
    }

    private static void promise1() {
        RailsOfIce x = new RailsOfIce();
        due.is("eight YARDS", 8, x.count(0));
        due.is("no TRAIN", 0, x.count(1));
        due.is("no letter", 0, x.count(6));
        due.is("an empty ROW", 0, x.count(7));
        due.is("nothing to be TAKEN BACK", 0, x.count(8));
        for (int what = 11; what <= 16; what++) {
            due.is("no REFUSAL", 0, x.count(what));
        }
        for (int yard = 0; yard < 8; yard++) {
            due.is("plain", 0, x.yard(yard, 0) + x.yard(yard, 1));
        }
        due.is("no ninth", -1, x.yard(8, 0));
        due.is("no first TRAIN", -1, x.told(0, 5));
        due.is("no IMAGE", -3, x.restore());
        due.is("none", -3, x.back());
        due.is("objects are apart", 0, new RailsOfIce().count(13));
    }

    private static void promise4() {
        RailsOfIce x = new RailsOfIce();
        int[] sizes = {2, 8, 16};
        for (int size : sizes) {
            x.many(size);
            due.is("the first", 40, x.yard(0, 2));
            due.is("ahead of it", -1, x.yard(-1, 2));
            due.is("the last of " + size, 40, x.yard(size - 1, 2));
            due.is("behind it", -1, x.yard(size, 2));
        }
        int[] dues = {0, 0, 40, 3, 4, 20};
        for (int what = 0; what <= 5; what++) {
            due.is("what " + what, dues[what], x.yard(0, what));
        }
        due.is("what -1", -2, x.yard(0, -1));
        due.is("what 6", -2, x.yard(0, 6));
        Worlds.toHour(x, 10);
        due.is("FREEZES, whichever HOUR", 3, x.yard(0, 3));
        due.is("MELTS, whichever HOUR", 4, x.yard(0, 4));
    }

    private static void promise5() {
        RailsOfIce x = new RailsOfIce();
        due.is("KIND 0 at least", 0, x.turn(0, 0, 0));
        due.is("FIGURE 9 at most", 0, x.turn(0, 0, 9));
        due.is("KIND 5 at most", 9, x.turn(0, 5, 0));
        due.is("both", 50, x.turn(0, 5, 9));
        due.is("10 times 5 and 9", 59, x.turn(0, 1, 1));
        due.is("11", 11, x.turn(0, 0, 0));
        due.is("KIND -1", -2, x.turn(0, -1, 0));
        due.is("KIND 6", -2, x.turn(0, 6, 0));
        due.is("FIGURE -1", -4, x.turn(0, 0, -1));
        due.is("FIGURE 10", -6, x.turn(0, 0, 10));
        due.is("the last YARD", 0, x.turn(7, 2, 3));
        due.is("KIND", 2, x.yard(7, 0));
        due.is("FIGURE", 3, x.yard(7, 1));
        due.is("behind it", -1, x.turn(8, 2, 3));
        due.is("ahead of the first", -1, x.turn(-1, 2, 3));
        due.is("FROST as it is", 40, x.yard(7, 2));
    }

    private static void promise6() {
        RailsOfIce x = new RailsOfIce();
        due.is("0 at least", 40, x.frost(0, 0));
        due.is("FROST 0", 0, x.yard(0, 2));
        due.is("99 at most", 0, x.frost(0, 99));
        due.is("FROST 99", 99, x.yard(0, 2));
        due.is("-1", -4, x.frost(0, -1));
        due.is("100", -6, x.frost(0, 100));
        due.is("FROST 99 still", 99, x.yard(0, 2));
        due.is("the last YARD", 40, x.frost(7, 1));
        due.is("behind it", -1, x.frost(8, 1));
        due.is("ahead of the first", -1, x.frost(-1, 1));
    }

    private static void promise7() {
        RailsOfIce x = new RailsOfIce();
        for (int what = 0; what <= 1; what++) {
            due.is("0 at least", 3 + what, x.weather(what, 0));
            due.is("it is", 0, x.count(3 + what));
            due.is("9 at most", 0, x.weather(what, 9));
            due.is("it is", 9, x.count(3 + what));
            due.is("-1", -4, x.weather(what, -1));
            due.is("10", -6, x.weather(what, 10));
            due.is("it is still", 9, x.count(3 + what));
        }
        due.is("what -1", -2, x.weather(-1, 0));
        due.is("what 2", -2, x.weather(2, 0));
    }

    private static void promise8() {
        RailsOfIce x = new RailsOfIce();
        due.is("2 at least", 8, x.many(2));
        due.is("1", -4, x.many(1));
        due.is("two", 2, x.count(0));
        due.is("16 at most", 2, x.many(16));
        due.is("17", -6, x.many(17));
        due.is("sixteen", 16, x.count(0));
        due.is("as many as there are", 16, x.many(16));
        x.frost(15, 7);
        x.turn(15, 5, 9);
        due.is("two", 16, x.many(2));
        x.hours(1);
        due.is("sixteen again", 2, x.many(16));
        due.is("beyond it did not freeze", 7, x.yard(15, 2));
        due.is("it stayed as it was", 5, x.yard(15, 0));
        due.is("its FIGURE too", 9, x.yard(15, 1));
        due.is("what was there froze", 43, x.yard(1, 2));
        due.is("the third did not", 40, x.yard(2, 2));
    }

    private static void promise8WithTrains() {
        RailsOfIce x = Worlds.still40();
        x.train(40, 0, 1);
        due.is("ahead of the line it is not beyond", 8, x.many(2));
        x.many(8);
        x.hours(4);
        due.is("on YARD 3", -3, x.many(3));
        due.is("on YARD 3, two", -3, x.many(2));
        due.is("on YARD 3, too few", -4, x.many(1));
        due.is("on YARD 3, too many", -6, x.many(17));
        due.is("it is the last one then", 8, x.many(4));
        x.frost(3, 0);
        x.waits(0, 1);
        x.hours(1);
        due.is("in the LAKE of YARD 3", 2, x.told(0, 5));
        due.is("it is not on its way", 4, x.many(2));
        x = Worlds.still40();
        x.train(40, 0, 3);
        x.hours(3);
        due.is("through", 1, x.told(0, 5));
        due.is("it is not on its way", 8, x.many(2));
    }

    private static void promise9() {
        RailsOfIce x = new RailsOfIce();
        due.is("the least", 0, x.train(1, 0, 1));
        due.is("the greatest", 1, x.train(60, 9, 3));
        due.is("WEIGHT 0", -4, x.train(0, 0, 1));
        due.is("WEIGHT 61", -6, x.train(61, 0, 1));
        due.is("WARMTH -1", -4, x.train(1, -1, 1));
        due.is("WARMTH 10", -6, x.train(1, 10, 1));
        due.is("PACE 0", -4, x.train(1, 0, 0));
        due.is("PACE 4", -6, x.train(1, 0, 4));
        due.is("below goes first", -4, x.train(61, 10, 0));
        due.is("two", 2, x.count(1));
        due.is("the third", 2, x.train(2, 1, 2));
        due.is("the fourth", 3, x.train(2, 1, 2));
        due.is("the fifth", 4, x.train(2, 1, 2));
        due.is("no room", -6, x.train(2, 1, 2));
        due.is("no room, below", -4, x.train(0, 1, 2));
        due.is("five", 5, x.count(1));
        due.is("WEIGHT", 60, x.told(1, 0));
        due.is("WARMTH", 9, x.told(1, 1));
        due.is("PACE", 3, x.told(1, 2));
        due.is("the last came too", 2, x.told(4, 0));
        x = Worlds.still(99, 99);
        for (int train = 0; train < 5; train++) {
            x.train(1, 0, 3);
            x.hours(1);
        }
        due.is("all are through", 5, x.through(0, 0));
        due.is("there is no more room by it", -6, x.train(1, 0, 1));
    }

    private static void promise10() {
        RailsOfIce x = new RailsOfIce();
        due.is("no TRAIN", -1, x.told(0, 0));
        for (int train = 0; train < 5; train++) {
            x.train(10 + train, train, 1);
            due.is("the first", 10, x.told(0, 0));
            due.is("the last", 10 + train, x.told(train, 0));
            due.is("behind it", -1, x.told(train + 1, 0));
        }
        due.is("ahead of the first", -1, x.told(-1, 0));
        due.is("what -1", -2, x.told(4, -1));
        int[] dues = {14, 4, 1, -1, 0, 0};
        for (int what = 0; what <= 5; what++) {
            due.is("what " + what, dues[what], x.told(4, what));
        }
        due.is("what 6", -2, x.told(4, 6));
    }

    private static void promise11() {
        RailsOfIce x = Worlds.still(40, 40);
        due.is("no TRAIN", -1, x.waits(0, 0));
        x.train(40, 0, 1);
        due.is("0 at least", 0, x.waits(0, 0));
        due.is("48 at most", 0, x.waits(0, 48));
        due.is("-1", -4, x.waits(0, -1));
        due.is("49", -6, x.waits(0, 49));
        due.is("48 still", 48, x.told(0, 4));
        due.is("it was 48", 48, x.waits(0, 0));
        due.is("behind the last", -1, x.waits(1, 0));
        due.is("ahead of the first", -1, x.waits(-1, 0));
        x.hours(2);
        due.is("on the line", 0, x.waits(0, 1));
        x.hours(1);
        due.is("it waited there", 1, x.told(0, 3));
        x.hours(1);
        due.is("through", -3, x.waits(0, 0));
        due.is("through, below", -4, x.waits(0, -1));
        due.is("through, above", -6, x.waits(0, 49));
    }

    private static void promise12() {
        RailsOfIce x = new RailsOfIce();
        due.is("0", -4, x.hours(0));
        due.is("73", -6, x.hours(73));
        due.is("HOUR 0", 0, x.count(2));
        due.is("1 at least", 0, x.hours(1));
        due.is("HOUR 1", 1, x.count(2));
        due.is("72 at most", 0, x.hours(72));
        due.is("HOUR 73", 73, x.count(2));
    }

    private static void promise12UpTo999() {
        RailsOfIce x = Worlds.still(40, 40);
        Worlds.toHour(x, 927);
        due.is("73", -6, x.hours(73));
        due.is("72 to 999", 0, x.hours(72));
        due.is("HOUR 999", 999, x.count(2));
        due.is("1 to 1000", -6, x.hours(1));
        due.is("HOUR 999 still", 999, x.count(2));
        due.is("0 at 999", -4, x.hours(0));
        due.is("back to 927", 7, x.back());
        due.is("HOUR 927", 927, x.count(2));
        x.hours(1);
        due.is("72 to 1000", -6, x.hours(72));
        due.is("71 to 999", 0, x.hours(71));
        x = Worlds.still(40, 40);
        Worlds.toHour(x, 998);
        due.is("2 to 1000", -6, x.hours(2));
        due.is("1 to 999", 0, x.hours(1));
    }

    private static void promise12NewlyThrough() {
        RailsOfIce x = Worlds.still(99, 99);
        for (int train = 0; train < 5; train++) {
            x.train(1, 0, 3);
        }
        due.is("all five by one HOUR", 5, x.hours(1));
        due.is("none more by the next", 0, x.hours(1));
    }

    private static void promise13() {
        RailsOfIce x = new RailsOfIce();
        due.is("nothing", -3, x.back());
        x.frost(0, 1);
        due.is("the one", 0, x.back());
        due.is("nothing more", -3, x.back());
        for (int change = 0; change < 8; change++) {
            x.frost(0, change);
        }
        due.is("of eight", 7, x.back());
        x.frost(0, 50);
        x.frost(0, 51);
        due.is("of nine", 7, x.back());
        due.is("FROST", 50, x.yard(0, 2));
        for (int left = 6; left >= 0; left--) {
            due.is("left", left, x.back());
        }
        due.is("the ninth no more", -3, x.back());
        due.is("FROST", 0, x.yard(0, 2));
    }

    private static void promise44() {
        RailsOfIce x = new RailsOfIce();
        due.is("-1", -4, x.row(-1));
        due.is("100", -6, x.row(100));
        due.is("none came", 0, x.count(7));
        due.is("0 at least", 1, x.row(0));
        due.is("99 at most", 2, x.row(99));
        for (int number = 3; number <= 16; number++) {
            due.is("number " + number, number, x.row(5));
        }
        due.is("the 17th", -6, x.row(5));
        due.is("the 17th, below", -4, x.row(-1));
        due.is("sixteen", 16, x.count(7));
        x.clear();
        due.is("there is room again", 1, x.row(5));
    }

    private static void promise45() {
        RailsOfIce x = Worlds.still(40, 40);
        due.is("an empty ROW", -9, x.judge(0));
        due.is("an empty ROW", -9, x.judge(72));
        Worlds.row(x, 40, 40);
        due.is("-1", -4, x.judge(-1));
        due.is("73", -6, x.judge(73));
        due.is("it stays", 2, x.count(7));
        due.is("behind 0, so", -9, x.judge(0));
        due.is("it has none then", 0, x.count(7));
        Worlds.row(x, 40, 40);
        due.is("behind 72, so", -9, x.judge(72));
        Worlds.row(x, 39, 39);
        due.is("the first", 0, x.judge(0));
        due.is("it has none then", 0, x.count(7));
        Worlds.row(x, 40, 41);
        due.is("the last", 1, x.judge(0));
        Worlds.row(x, 40, 40, 40);
        due.is("no such one", 2, x.judge(0));
        x = new RailsOfIce();
        x.many(16);
        x.frost(15, 0);
        x.frost(14, 99);
        for (int yard = 0; yard < 14; yard++) {
            x.row(40);
        }
        Worlds.row(x, 99, 0);
        due.is("all sixteen", -9, x.judge(0));
        for (int yard = 0; yard < 14; yard++) {
            x.row(40);
        }
        Worlds.row(x, 99, 1);
        due.is("but the sixteenth", 15, x.judge(0));
        for (int yard = 0; yard < 14; yard++) {
            x.row(76);
        }
        Worlds.row(x, 93, 42);
        due.is("behind 72", -9, x.judge(72));
    }

    private static void promise46() {
        RailsOfIce x = new RailsOfIce();
        due.is("an empty ROW", 0, x.clear());
        for (int number = 0; number < 16; number++) {
            x.row(number);
        }
        due.is("a full one", 16, x.clear());
        due.is("none then", 0, x.count(7));
        due.is("none", 0, x.clear());
        due.is("the first again", 1, x.row(9));
    }

    private static void promise48() {
        RailsOfIce x = Worlds.still(40, 40);
        due.is("HOUR 0", 0, x.image());
        Worlds.toHour(x, 999);
        due.is("HOUR 999", 999, x.image());
        x.frost(0, 9);
        due.is("the later one is it", 999, x.restore());
        due.is("FROST", 40, x.yard(0, 2));
    }

    private static void promise49() {
        RailsOfIce x = Worlds.rich();
        due.is("HOUR 6", 6, x.count(2));
        due.is("that of HOUR 4", 4, x.restore());
        due.is("KIND", 0, x.yard(0, 0));
        due.is("COLD", 0, x.count(3));
        due.is("AT", 1, x.told(2, 3));
        due.is("WAITS", 36, x.told(3, 4));
        due.is("letters stay", 5, x.count(6));
        due.is("the ROW stays", 3, x.count(7));
        due.is("nothing to be TAKEN BACK", 0, x.count(8));
        x.many(16);
        x.train(1, 0, 1);
        x.hours(72);
        due.is("as often as one likes", 4, x.restore());
        due.is("YARDS", 6, x.count(0));
        due.is("TRAINS", 4, x.count(1));
        due.is("HOUR", 4, x.count(2));
        x = new RailsOfIce();
        due.is("there is none", -3, x.restore());
        x.image();
        due.is("the IMAGE of a new object", 0, x.restore());
        due.is("REFUSALS stay", 1, x.count(13));
        x.train(1, 0, 1);
        x.restore();
        due.is("no TRAIN again", -1, x.told(0, 0));
        x.train(60, 9, 3);
        x.hours(9);
        x.waits(0, 48);
        x.restore();
        due.is("the first again", 0, x.train(2, 0, 1));
        int[] dues = {2, 0, 1, -1, 0, 0};
        for (int what = 0; what <= 5; what++) {
            due.is("a new one, what " + what, dues[what], x.told(0, what));
        }
        Worlds.toHour(x, 72);
        due.is("through", 1, x.told(0, 5));
        x.restore();
        x.train(2, 0, 1);
        due.is("on its way", 0, x.told(0, 5));
    }

    private static void promise50() {
        RailsOfIce x = Worlds.rich();
        int[] counts = {6, 4, 6, 2, 5, 0, 5, 3, 8, -9, -9, 0, 0, 0, 0, 0, 0, -9};
        counts[5] = x.yard(0, 2) + x.yard(1, 2) + x.yard(2, 2) + x.yard(3, 2) + x.yard(4, 2) + x.yard(5, 2);
        for (int what = 0; what < counts.length; what++) {
            due.is("count " + what, counts[what], x.count(what));
        }
        due.is("count -1", -9, x.count(-1));
        due.is("count min", -9, x.count(Integer.MIN_VALUE));
        due.is("count max", -9, x.count(Integer.MAX_VALUE));
        x = Worlds.full();
        int[] full = {4, 5, 999, 0, 0, 160, 96, 16, 8};
        for (int what = 0; what < full.length; what++) {
            due.is("full " + what, full[what], x.count(what));
        }
        for (int times = 1; times <= 3; times++) {
            x.yard(-1, 0);
            x.yard(0, 6);
            x.restore();
            x.waits(0, -1);
            x.row(100);
            due.is("-1", times, x.count(11));
            due.is("-2", times, x.count(12));
            due.is("-3, there is an IMAGE", 0, x.count(13));
            due.is("-4", times, x.count(14));
            due.is("-5", 0, x.count(15));
            due.is("-6", times, x.count(16));
        }
        x.noons(5, 0);
        x.noons(0, 2);
        due.is("a long refused too", 4, x.count(11));
        due.is("a long refused too", 4, x.count(12));
        x = new RailsOfIce();
        x.back();
        x.restore();
        due.is("-3", 2, x.count(13));
        x.count(9);
        x.count(17);
        x.key();
        x.clear();
        x.line();
        for (int what = 11; what <= 16; what++) {
            due.is("what is no REFUSAL", what == 13 ? 2 : 0, x.count(what));
        }
    }
}
