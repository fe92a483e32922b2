/** Edges that the document names: 72 hours and not 73, the least and the greatest that answers. */
public final class EdgesTest {
    private static final Due due = new Due("EdgesTest");

    public static void main(String[] args) {
        seventyTwoHours();
        seventyThreeHours();
        twoTrainsInSeventyTwoHours();
        winterOf48Hours();
        leastAndGreatest();
        lineEdges();
        yardsBeyond();
        marchEdges();
        tellsEdges();
        fiveTrains();
        due.end();
    }

    private static void seventyTwoHours() {
        RailsOfIce x = Worlds.slowFrost(6);
        due.is("frostIn", 40, x.frostIn(0, 70));
        due.is("when", 72, x.trainIn(0, 72, 2));
        due.is("not yet", -9, x.trainIn(0, 71, 2));
        due.is("through", 1, x.through(72, 0));
        due.is("last", 48, x.last(0));
        due.is("best wait", 0, x.bestWait(0, 0));
        due.is("72", 72, x.bestWait(0, 1));
        due.is("heaviest", 40, x.heaviest(0, 0));
        due.is("warmest", 9, x.heaviest(0, 1));
        due.is("fastest", 3, x.heaviest(0, 2));
        due.is("pour none", 0, x.pourFewest(0));
        due.is("order", 1, x.order(1));
        due.is("noons", 1, x.noons(0, 0));
        due.is("of 10", 10, x.noons(0, 1));
        due.is("noon", 0, x.noon(0));
        due.is("needed", 6, x.needed(0, 0));
        due.is("yard 1 is gone to an hour later", 5, x.needed(1, 0));
        due.is("it stands until then", 69, x.stands(0));
        due.is("lasts", 0, x.lasts(0, 40));
    }

    private static void seventyThreeHours() {
        RailsOfIce x = Worlds.slowFrost(5);
        due.is("when", -9, x.trainIn(0, 72, 2));
        due.is("through", 0, x.through(72, 0));
        due.is("last", -9, x.last(0));
        due.is("best wait", -9, x.bestWait(0, 0));
        due.is("never", -9, x.bestWait(0, 1));
        due.is("heaviest", 39, x.heaviest(0, 0));
        due.is("warmest", -9, x.heaviest(0, 1));
        due.is("fastest, in the 71st", 3, x.heaviest(0, 2));
        due.is("pour first", 0, x.pourFirst());
        due.is("pour fewest", 1, x.pourFewest(0));
        due.is("order", 0, x.order(1));
        due.is("order", 0, x.order(0));
        due.is("noons", 0, x.noons(0, 0));
        due.is("noon", -9, x.noon(0));
        due.is("needed", 6, x.needed(0, 0));
        due.is("needed", -9, x.needed(1, 0));
        x.turn(0, 2, 0);
        due.is("key", -9, x.key());
        x.turn(0, 2, 1);
        due.is("key, still too late", -9, x.key());
        x.frost(0, 6);
        due.is("key", 0, x.key());
    }

    private static void twoTrainsInSeventyTwoHours() {
        RailsOfIce x = Worlds.still(40, 40);
        x.hours(6);
        x.weather(0, 1);
        x.frost(0, 3);
        x.frost(1, 3);
        x.train(1, 0, 1);
        x.train(40, 0, 1);
        due.is("the other is through in HOUR 92", -9, x.timetable(0, 1));
        due.is("likewise", -9, x.timetable(1, 0));
        x = Worlds.still40();
        x.hours(6);
        x.weather(0, 1);
        x.train(40, 5, 1);
        x.train(40, 0, 1);
        due.is("the later of both counts", 600, x.timetable(0, 1));
    }

    private static void winterOf48Hours() {
        RailsOfIce x = new RailsOfIce();
        x.many(2);
        x.turn(0, 3, 0);
        x.turn(1, 3, 0);
        // A siding wants 0 for weight 1, whatever the weather.
        x.train(1, 0, 1);
        x.waits(0, 45);
        due.is("in 48 hours", 20, x.lots(20, 3, 0));
        x.waits(0, 46);
        due.is("in 49", 0, x.lots(20, 3, 0));
        x.hours(48);
        x.hours(1);
        due.is("through already", 3, x.lots(3, 3, 0));
    }

    private static void leastAndGreatest() {
        RailsOfIce x = new RailsOfIce();
        x.weather(0, 0);
        x.hours(2);
        x.train(40, 0, 1);
        due.is("LAST 0", 0, x.last(0));
        x = Worlds.still(1, 1);
        x.train(60, 0, 1);
        due.is("HEAVIEST 1", 1, x.heaviest(0, 0));
        x = Worlds.still(90, 90);
        x.turn(0, 1, 0);
        x.train(1, 0, 1);
        due.is("HEAVIEST 60", 60, x.heaviest(0, 0));
        x = Worlds.still(45, 0);
        x.hours(11);
        x.frost(0, 44);
        x.weather(0, 9);
        x.weather(1, 4);
        x.train(40, 3, 1);
        due.is("WARMEST 4: 20 is left on yard 0", 4, x.heaviest(0, 1));
        x.weather(1, 5);
        x.frost(0, 45);
        due.is("WARMEST 0: 20 is left", 0, x.heaviest(0, 1));
        x = Worlds.still(99, 99);
        x.hours(10);
        x.turn(0, 2, 9);
        x.turn(1, 3, 0);
        x.weather(1, 9);
        x.train(60, 0, 1);
        x.waits(0, 6);
        due.is("NEEDED 99: 69 is left", 99, x.needed(0, 0));
        x.turn(0, 2, 8);
        due.is("68 of 98 is left", 98, x.needed(0, 0));
        x = new RailsOfIce();
        x.turn(0, 5, 2);
        x.weather(1, 9);
        due.is("a shade melts half of 8", 4, x.yard(0, 4));
        x.turn(0, 5, 5);
        due.is("half of 7, cut", 3, x.yard(0, 4));
    }

    private static void lineEdges() {
        RailsOfIce x = new RailsOfIce();
        due.is("h01", 1, Worlds.line(x, "h01;"));
        due.is("h72", 1, Worlds.line(x, "h72;"));
        due.is("HOUR", 73, x.count(2));
        due.is("n16", 1, Worlds.line(x, "n16;"));
        due.is("y15", 1, Worlds.line(x, "y155900;"));
        due.is("a shade", 5, x.yard(15, 0));
        due.is("of 9", 9, x.yard(15, 1));
        due.is("without frost", 0, x.yard(15, 2));
        due.is("t", 1, Worlds.line(x, "t0181;"));
        due.is("warmth", 8, x.told(0, 1));
        due.is("w048", 1, Worlds.line(x, "w048;"));
        due.is("waits", 48, x.told(0, 4));
        due.is("t60", 1, Worlds.line(x, "t6093;"));
        due.is("five", 3, Worlds.line(x, "t0101;t0101;t0101;"));
        due.is("no room", -2000, Worlds.line(x, "t0101;"));
        due.is("w448", 1, Worlds.line(x, "w448;"));
        due.is("w500", -2000, Worlds.line(x, "w500;"));
        due.is("kind 1 goes ahead of kind 2", -1005, Worlds.line(x, "n99;n"));
    }

    private static void yardsBeyond() {
        RailsOfIce x = Worlds.still(50, 60, 70, 0);
        x.turn(3, 4, 0);
        x.many(3);
        x.weather(1, 0);
        x.train(50, 0, 1);
        due.is("thin", -9, x.thin(0, 50));
        due.is("lowest", 50, x.lowest(0, 0));
        due.is("mean", 60, x.mean(72, 0));
        due.is("spread", 20, x.mean(72, 1));
        due.is("runs", 3, x.runs(50, 0));
        due.is("strongest", 1, x.strongest(60));
        due.is("tells", 0, x.tells());
        due.is("near", -9, x.near(2));
        x.turn(0, 4, 0);
        due.is("near, at the very beginning", 1, x.near(1));
        x.turn(2, 4, 0);
        due.is("near, there", 0, x.near(2));
        x.turn(0, 0, 0);
        x.turn(2, 0, 0);
        due.is("march", 50, x.march(2));
        due.is("sure", 50, x.march(0));
        due.is("all frost", 180, x.count(5));
        due.is("through", 4, x.trainIn(0, 72, 2));
        Worlds.row(x, 50, 60, 70, 0);
        due.is("no such one though its frost is 0", 3, x.judge(0));
        x.frost(2, 30);
        x.frost(1, 10);
        due.is("70 30 0: beside 30", 1, x.tells());
        x.frost(1, 45);
        x.frost(2, 38);
        due.is("at the end beside the one, not what is beyond", 2, x.tells());
        x.many(4);
        x.frost(3, 99);
        x.many(3);
        due.is("spread without what is beyond", 12, x.mean(0, 1));
        due.is("lowest, too", 38, x.lowest(0, 0));
    }

    private static void marchEdges() {
        int[][] frosts = {{30, 35}, {60, 90}, {99, 9}, {30, 99, 99, 99, 99}, {20, 25, 90, 90, 22}};
        int[][] dues = {{25, 0, 30}, {60, 0, 60}, {9, 1, 9}, {30, 0, 30}, {12, 0, 20}};
        for (int i = 0; i < frosts.length; i++) {
            RailsOfIce x = Worlds.still(frosts[i]);
            for (int what = 0; what <= 2; what++) {
                due.is("march " + i + " " + what, dues[i][what], x.march(what));
            }
        }
    }

    private static void tellsEdges() {
        due.is("41 beside 55, though 40 is less", 1, Worlds.still(40, 41, 70, 70).tells());
        due.is("60 beside 75 as 50 beside 60", 0, Worlds.still(50, 60, 80).tells());
        due.is("more than that", 1, Worlds.still(50, 60, 92).tells());
    }

    private static void fiveTrains() {
        RailsOfIce x = Worlds.still40();
        for (int train = 0; train < 5; train++) {
            x.train(40 - train, 0, 1);
        }
        due.is("all", 5, x.through(72, 0));
        due.is("the last", 13, x.trainIn(4, 72, 2));
        x.hours(1);
        due.is("four are ahead", 1234, x.order(0));
        due.is("all", 5, x.order(1));
        due.is("timetable", 6, x.timetable(1, 4));
        x.hours(11);
        due.is("four are through", 4, x.through(0, 0));
        x.image();
        x.hours(1);
        due.is("all", 5, x.through(0, 0));
        x.back();
        due.is("back", 0, x.told(4, 5));
        x.restore();
        due.is("restored", 7, x.told(4, 3));
        due.is("the fifth waits", 0, x.waits(4, 3));
    }
}
