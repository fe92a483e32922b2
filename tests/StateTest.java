/** Promises 1 to 13 and 44 to 50: what is there and what changes it. Answers worked out by hand. */
public final class StateTest {
    private static final Due due = new Due("StateTest");

    public static void main(String[] args) {
        newObject();
        feed();
        lineStatements();
        lineFaultsOfLetters();
        lineFaultsOfSense();
        lineWaitsOfWhoIsNotOnItsWay();
        yard();
        turn();
        frost();
        weather();
        many();
        train();
        told();
        waits();
        hours();
        hoursToTheEnd();
        kindsInHours();
        trainsInHours();
        lake();
        back();
        row();
        judge();
        clear();
        image();
        count();
        due.end();
    }

    private static void newObject() {
        RailsOfIce x = new RailsOfIce();
        int[] counts = {8, 0, 0, 3, 4, 320, 0, 0, 0, -9, -9, 0, 0, 0, 0, 0, 0, -9};
        for (int what = 0; what < counts.length; what++) {
            due.is("new count(" + what + ")", counts[what], x.count(what));
        }
        for (int yard = 0; yard < 8; yard++) {
            due.is("new kind", 0, x.yard(yard, 0));
            due.is("new figure", 0, x.yard(yard, 1));
            due.is("new frost", 40, x.yard(yard, 2));
        }
        due.is("no ninth yard", -1, x.yard(8, 0));
        due.is("no train", -1, x.told(0, 0));
        x.many(16);
        due.is("yards beyond are plain, 40, too", 640, x.count(5));
    }

    private static void feed() {
        RailsOfIce x = new RailsOfIce();
        due.is("feed(-1)", -4, x.feed(-1));
        due.is("feed(256)", -6, x.feed(256));
        due.is("feed(min)", -4, x.feed(Integer.MIN_VALUE));
        due.is("feed(max)", -6, x.feed(Integer.MAX_VALUE));
        due.is("feed(0)", 1, x.feed(0));
        due.is("feed(255)", 2, x.feed(255));
        for (int letter = 3; letter <= 96; letter++) {
            due.is("feed", letter, x.feed('n'));
        }
        due.is("97th", -6, x.feed('n'));
        due.is("97th below", -4, x.feed(-5));
        due.is("letters", 96, x.count(6));
        due.is("-4s", 3, x.count(14));
        due.is("-6s", 3, x.count(16));
    }

    private static void lineStatements() {
        RailsOfIce x = new RailsOfIce();
        due.is("n12", 1, Worlds.line(x, "n12;"));
        due.is("n12 yards", 12, x.count(0));
        due.is("all kinds", 7, Worlds.line(x, "n03;y024597;t6093;t0101;w148;c09;h02;"));
        due.is("yards", 3, x.count(0));
        due.is("kind", 4, x.yard(2, 0));
        due.is("figure", 5, x.yard(2, 1));
        due.is("frost by two hours of cold 0 (+3 a halt)", 99, x.yard(2, 2));
        due.is("frost of a yard", 40, x.yard(1, 2));
        due.is("trains", 2, x.count(1));
        due.is("weight", 60, x.told(0, 0));
        due.is("warmth", 9, x.told(0, 1));
        due.is("pace", 3, x.told(0, 2));
        due.is("waits less 2", 46, x.told(1, 4));
        due.is("cold", 0, x.count(3));
        due.is("noon", 9, x.count(4));
        due.is("hour", 2, x.count(2));
        due.is("letters are no more", 0, x.count(6));
        x.frost(0, 50);
        x.weather(0, 1);
        due.is("to be taken back", 2, x.count(8));
        due.is("a fault leaves that", -2000, Worlds.line(x, "n01;"));
        due.is("still", 2, x.count(8));
        due.is("a line leaves none", 1, Worlds.line(x, "c34;"));
        due.is("none", 0, x.count(8));
        due.is("back", -3, x.back());
        StringBuilder most = new StringBuilder();
        for (int i = 0; i < 24; i++) {
            most.append("c12;");
        }
        due.is("24 statements", 24, Worlds.line(x, most.toString()));
        due.is("cold", 1, x.count(3));
    }

    private static void lineFaultsOfLetters() {
        RailsOfIce x = new RailsOfIce();
        String[] texts = {"", ";", "n", "n1", "n10", "x", "N10;", "n1;", "n1x;", "n100;", "n10;;", "n10;y",
            "y000040", "y0000400;", "t6093;x", "w0000;", "w000", "c123;", "h72", "h 1;", "c12;c12", "c12;q",
            "n99;y"};
        int[] places = {0, 0, 1, 2, 3, 0, 0, 2, 2, 3, 4, 5, 7, 7, 6, 4, 4, 3, 3, 1, 7, 4, 5};
        for (int i = 0; i < texts.length; i++) {
            due.is("line of \"" + texts[i] + "\"", -1000 - places[i], Worlds.line(x, texts[i]));
            due.is("letters no more", 0, x.count(6));
        }
        x.feed(255);
        due.is("a letter 255", -1000, x.line());
        due.is("nothing came", 8, x.count(0));
        for (int what = 11; what <= 16; what++) {
            due.is("nothing is counted", 0, x.count(what));
        }
        StringBuilder full = new StringBuilder();
        for (int i = 0; i < 23; i++) {
            full.append("c12;");
        }
        due.is("95 letters, something lacks", -1095, Worlds.line(x, full + "n12"));
        due.is("96 letters, something lacks", -1096, Worlds.line(x, full + "w000"));
    }

    private static void lineFaultsOfSense() {
        RailsOfIce x = new RailsOfIce();
        String[] texts = {"n01;", "n17;", "n02;", "c12;n17;", "y080040;", "y990040;", "y076040;", "y079040;",
            "t0001;", "t6101;", "t0100;", "t0104;", "w000;", "t0101;w100;", "t0101;w049;", "h00;", "h73;",
            "n02;y020040;", "n16;y150040;n00;", "t0101;t0101;t0101;t0101;t0101;t0101;"};
        int[] dues = {-2000, -2000, 1, -2004, -2000, -2000, -2000, -2000, -2000, -2000, -2000, -2000, -2000,
            -2006, -2006, -2000, -2000, -2004, -2012, -2030};
        for (int i = 0; i < texts.length; i++) {
            x = new RailsOfIce();
            due.is("line of \"" + texts[i] + "\"", dues[i], Worlds.line(x, texts[i]));
            if (dues[i] < 0) {
                due.is("nothing came of " + texts[i], 320, x.count(5));
                due.is("no train came", 0, x.count(1));
                due.is("no cold came", 3, x.count(3));
            }
            due.is("letters no more", 0, x.count(6));
        }
        x = Worlds.still(9, 9, 9, 9);
        due.is("a yard is taken away under it", -2014, Worlds.line(x, "t0901;h03;n03;n02;"));
        due.is("none is taken away under it", 3, Worlds.line(x, "t0901;h03;n03;"));
        due.is("where it is", 2, x.told(0, 3));
        due.is("through, nothing holds", 2, Worlds.line(x, "h02;n02;"));
        due.is("who is through cannot wait", -2000, Worlds.line(x, "w007;"));
        due.is("nothing is counted", 0, x.count(13));
        x.hours(72);
        due.is("HOUR above 999", -2048, Worlds.line(x, "h72;h72;h72;h72;h72;h72;h72;h72;h72;h72;h72;h72;h72;"));
        due.is("nothing came", 77, x.count(2));
    }

    private static void lineWaitsOfWhoIsNotOnItsWay() {
        RailsOfIce x = Worlds.still(40, 40);
        due.is("through behind hours of the text", -2010, Worlds.line(x, "t4001;h03;w007;"));
        due.is("no hours came", 0, x.count(2));
        due.is("on the line", 3, Worlds.line(x, "t4001;h02;w007;"));
        due.is("it waits there", 7, x.told(0, 4));
        due.is("through, whatever it waits", -2015, Worlds.line(x, "t4001;w100;h08;w000;"));
        due.is("another waits", 3, Worlds.line(x, "t4001;h08;w148;"));
        due.is("it waits", 48, x.told(1, 4));
        x = Worlds.still(40, 0);
        due.is("in the lake behind hours of the text", -2022, Worlds.line(x, "t4001;h01;y000019;h01;w000;"));
        due.is("no train came", 0, x.count(1));
        due.is("in the lake", 4, Worlds.line(x, "t4001;h01;y000019;h01;"));
        due.is("how", 2, x.told(0, 5));
        due.is("who is in the lake cannot wait", -2004, Worlds.line(x, "c12;w000;"));
        due.is("no cold came", 0, x.count(3));
    }

    private static void yard() {
        RailsOfIce x = new RailsOfIce();
        x.weather(0, 7);
        x.weather(1, 5);
        int[] figures = {9, 9, 5, 5, 5, 5};
        int[][] dues = {{7, 5, 20}, {3, 10, 30}, {7, 3, 25}, {12, 5, 10}, {10, 6, 10}, {7, 1, 25}};
        for (int kind = 0; kind <= 5; kind++) {
            x.turn(kind, kind, figures[kind]);
            due.is("kind", kind, x.yard(kind, 0));
            due.is("figure", figures[kind], x.yard(kind, 1));
            due.is("frost", 40, x.yard(kind, 2));
            for (int what = 3; what <= 5; what++) {
                due.is("kind " + kind + " what " + what, dues[kind][what - 3], x.yard(kind, what));
            }
        }
        x.weather(0, 0);
        x.weather(1, 3);
        x.turn(0, 4, 1);
        due.is("a halt freezes 0 at least", 0, x.yard(0, 3));
        x.turn(0, 2, 9);
        due.is("a curve melts 0 at least", 0, x.yard(0, 4));
        x.turn(0, 5, 9);
        due.is("a shade too", 0, x.yard(0, 4));
        x.weather(1, 0);
        x.turn(0, 4, 9);
        due.is("a halt melts by noon 0", 1, x.yard(0, 4));
        due.is("yard(-1)", -1, x.yard(-1, 9));
        due.is("yard(8)", -1, x.yard(8, 0));
        due.is("what -1", -2, x.yard(0, -1));
        due.is("what 6", -2, x.yard(0, 6));
        due.is("-1s", 2, x.count(11));
        due.is("-2s", 2, x.count(12));
    }

    private static void turn() {
        RailsOfIce x = new RailsOfIce();
        due.is("turn", 0, x.turn(7, 5, 9));
        due.is("turn again", 59, x.turn(7, 0, 0));
        due.is("order 1", -1, x.turn(8, 9, 99));
        due.is("order 2", -2, x.turn(0, 6, 10));
        due.is("kind -1", -2, x.turn(0, -1, -1));
        due.is("figure -1", -4, x.turn(0, 0, -1));
        due.is("figure 10", -6, x.turn(0, 0, 10));
        due.is("nothing changed", 0, x.yard(0, 1));
        due.is("two can be taken back", 2, x.count(8));
    }

    private static void frost() {
        RailsOfIce x = new RailsOfIce();
        due.is("frost", 40, x.frost(0, 0));
        due.is("frost 99", 0, x.frost(0, 99));
        due.is("no yard", -1, x.frost(-1, -1));
        due.is("no yard", -1, x.frost(8, 100));
        due.is("below", -4, x.frost(0, -1));
        due.is("above", -6, x.frost(0, 100));
        due.is("as it was", 99, x.yard(0, 2));
        due.is("all", 379, x.count(5));
    }

    private static void weather() {
        RailsOfIce x = new RailsOfIce();
        due.is("cold", 3, x.weather(0, 9));
        due.is("noon", 4, x.weather(1, 0));
        due.is("cold", 9, x.weather(0, 0));
        due.is("noon", 0, x.weather(1, 9));
        due.is("what 2", -2, x.weather(2, -1));
        due.is("what -1", -2, x.weather(-1, 10));
        due.is("below", -4, x.weather(0, -1));
        due.is("above", -6, x.weather(1, 10));
        due.is("cold is", 0, x.count(3));
        due.is("noon is", 9, x.count(4));
    }

    private static void many() {
        RailsOfIce x = Worlds.still(40, 40, 40, 40);
        x.frost(3, 17);
        due.is("to be taken back", 7, x.count(8));
        due.is("many(2)", 4, x.many(2));
        due.is("leaves none", 0, x.count(8));
        x.weather(0, 1);
        x.hours(6);
        due.is("many(16)", 2, x.many(16));
        due.is("as it stayed", 17, x.yard(3, 2));
        due.is("what froze", 46, x.yard(1, 2));
        due.is("below", -4, x.many(1));
        due.is("above", -6, x.many(17));
        x = Worlds.still(9, 9, 9, 9);
        x.train(9, 0, 1);
        x.hours(3);
        due.is("a train is on 2", -3, x.many(2));
        due.is("yards", 4, x.count(0));
        due.is("below first", -4, x.many(-7));
        due.is("refused, so what can be taken back is kept", 1, x.count(8));
        due.is("not beyond", 4, x.many(3));
        x.hours(1);
        due.is("through holds no yard", 3, x.many(2));
    }

    private static void train() {
        RailsOfIce x = new RailsOfIce();
        x.frost(0, 1);
        due.is("weight 0", -4, x.train(0, 10, 4));
        due.is("warmth -1", -4, x.train(61, -1, 1));
        due.is("pace 0", -4, x.train(1, 0, 0));
        due.is("weight 61", -6, x.train(61, 0, 1));
        due.is("warmth 10", -6, x.train(1, 10, 1));
        due.is("pace 4", -6, x.train(1, 0, 4));
        due.is("none came", 0, x.count(1));
        due.is("refused, kept", 1, x.count(8));
        for (int train = 0; train < 5; train++) {
            due.is("train", train, x.train(train == 0 ? 60 : 1, train == 0 ? 9 : 0, train == 0 ? 3 : 1));
        }
        due.is("leaves none", 0, x.count(8));
        due.is("the sixth", -6, x.train(1, 0, 1));
        due.is("the sixth below", -4, x.train(1, 0, -1));
        due.is("five", 5, x.count(1));
    }

    private static void told() {
        RailsOfIce x = Worlds.still40();
        x.train(33, 4, 2);
        x.train(50, 1, 1);
        int[] first = {33, 4, 2, -1, 0, 0};
        for (int what = 0; what <= 5; what++) {
            due.is("told " + what, first[what], x.told(0, what));
        }
        x.waits(1, 48);
        x.hours(4);
        int[] later = {33, 4, 2, 7, 0, 0};
        for (int what = 0; what <= 5; what++) {
            due.is("told later " + what, later[what], x.told(0, what));
        }
        x.hours(1);
        due.is("through", 1, x.told(0, 5));
        due.is("where it was last", 7, x.told(0, 3));
        due.is("waits less 5", 43, x.told(1, 4));
        due.is("no train", -1, x.told(2, 9));
        due.is("no train", -1, x.told(-1, 0));
        due.is("what 6", -2, x.told(0, 6));
        due.is("what -1", -2, x.told(1, -1));
    }

    private static void waits() {
        RailsOfIce x = Worlds.still40();
        x.train(40, 0, 3);
        due.is("waits", 0, x.waits(0, 48));
        due.is("waits", 48, x.waits(0, 0));
        due.is("no train", -1, x.waits(1, -1));
        due.is("below", -4, x.waits(0, -1));
        due.is("above", -6, x.waits(0, 49));
        x.hours(1);
        due.is("on the line", 0, x.waits(0, 1));
        x.hours(1);
        due.is("it waited there", 2, x.told(0, 3));
        x.hours(2);
        due.is("through", 1, x.told(0, 5));
        due.is("not on its way", -3, x.waits(0, 1));
        due.is("below first", -4, x.waits(0, -1));
        due.is("above first", -6, x.waits(0, 49));
        due.is("-3s", 1, x.count(13));
    }

    private static void hours() {
        RailsOfIce x = Worlds.still40();
        x.train(40, 0, 3);
        x.train(40, 0, 3);
        x.train(41, 0, 3);
        due.is("below", -4, x.hours(0));
        due.is("above", -6, x.hours(73));
        due.is("two hours", 0, x.hours(2));
        due.is("the third", 1, x.hours(1));
        due.is("the fourth, by that alone", 1, x.hours(1));
        due.is("none more", 0, x.hours(68));
        due.is("HOUR", 72, x.count(2));
        x = new RailsOfIce();
        x.hours(1);
        due.is("hour 0 freezes", 43, x.yard(0, 2));
        x.hours(5);
        due.is("hour 5 freezes", 58, x.yard(0, 2));
        x.hours(4);
        due.is("hours 6 to 9 do nothing", 58, x.yard(0, 2));
        x.hours(1);
        due.is("hour 10 melts", 54, x.yard(0, 2));
        x.hours(5);
        due.is("hour 15 melts", 34, x.yard(0, 2));
        x.hours(2);
        due.is("hours 16 and 17 do nothing", 34, x.yard(0, 2));
        x.hours(1);
        due.is("hour 18 freezes", 37, x.yard(0, 2));
        x.hours(5);
        due.is("hour 23 freezes", 52, x.yard(0, 2));
        x.hours(1);
        due.is("hour 24 as hour 0", 55, x.yard(0, 2));
    }

    private static void hoursToTheEnd() {
        RailsOfIce x = new RailsOfIce();
        for (int i = 0; i < 13; i++) {
            x.hours(72);
        }
        due.is("936", 936, x.count(2));
        due.is("to 1000", -6, x.hours(64));
        due.is("to 999", 0, x.hours(63));
        due.is("no hour more", -6, x.hours(1));
        due.is("below", -4, x.hours(-1));
        due.is("in mind there are more", 79, x.frostIn(0, 72));
    }

    private static void kindsInHours() {
        RailsOfIce x = new RailsOfIce();
        x.weather(0, 5);
        for (int kind = 0; kind <= 5; kind++) {
            x.turn(kind, kind, 3);
        }
        x.hours(6);
        int[] frozen = {70, 52, 70, 88, 76, 70};
        for (int kind = 0; kind <= 5; kind++) {
            due.is("frozen " + kind, frozen[kind], x.yard(kind, 2));
        }
        x.hours(10);
        int[] melted = {46, 4, 52, 64, 46, 64};
        for (int kind = 0; kind <= 5; kind++) {
            due.is("melted " + kind, melted[kind], x.yard(kind, 2));
        }
        x.weather(1, 9);
        x.weather(0, 9);
        x.hours(14);
        due.is("99 at most", 99, x.yard(0, 2));
        x.weather(0, 0);
        x.turn(1, 1, 0);
        x.frost(1, 20);
        x.hours(12);
        due.is("0 at least", 0, x.yard(1, 2));
    }

    private static void trainsInHours() {
        RailsOfIce x = Worlds.still40();
        x.turn(0, 3, 0);
        x.turn(1, 4, 0);
        x.weather(1, 0);
        for (int train = 0; train < 3; train++) {
            x.train(40, 2, 1);
        }
        x.hours(1);
        due.is("0 on a siding", 0, x.told(0, 3));
        due.is("1 there too", 0, x.told(1, 3));
        due.is("2 there too", 0, x.told(2, 3));
        due.is("it lost three warmths", 34, x.yard(0, 2));
        x.hours(1);
        due.is("all on a halt", 1, x.told(2, 3));
        x.hours(1);
        due.is("one goes on", 2, x.told(0, 3));
        due.is("one stands", 1, x.told(1, 3));
        x.hours(1);
        due.is("behind it the next", 3, x.told(0, 3));
        due.is("to the plain yard that lost", 1, x.told(1, 3));
        due.is("two lost it once", 38, x.yard(2, 2));
        x = Worlds.still(40, 40, 40, 2, 40);
        x.train(40, 0, 3);
        x.train(2, 9, 3);
        x.hours(1);
        due.is("gone three", 2, x.told(0, 3));
        due.is("gone two, then taken", 1, x.told(1, 3));
        x.hours(1);
        due.is("not borne", 2, x.told(0, 3));
        x.frost(3, 40);
        x.hours(1);
        due.is("through within its pace", 1, x.told(0, 5));
        due.is("it was on the last", 4, x.told(0, 3));
        due.is("and the other goes three", 4, x.told(1, 3));
        due.is("losing", 31, x.yard(4, 2));
    }

    private static void lake() {
        RailsOfIce x = Worlds.still(21, 40);
        x.turn(0, 0, 9);
        x.train(21, 9, 1);
        x.hours(1);
        due.is("12 bears half of 21", 0, x.told(0, 5));
        x.frost(0, 10);
        x.weather(0, 0);
        x.waits(0, 5);
        x.hours(1);
        due.is("10 is half, cut", 0, x.told(0, 5));
        x.frost(0, 9);
        x.hours(1);
        due.is("9 is less", 2, x.told(0, 5));
        due.is("AT as it was", 0, x.told(0, 3));
        due.is("WAITS as it was", 3, x.told(0, 4));
        x.frost(0, 99);
        due.is("none comes out", 0, x.hours(72));
        due.is("in the lake", 2, x.told(0, 5));
        x.train(40, 0, 1);
        x.hours(1);
        due.is("who is in the lake is in no way", 0, x.told(1, 3));
        x = Worlds.still(1, 2);
        x.turn(0, 3, 0);
        x.train(2, 1, 1);
        x.hours(1);
        due.is("a siding of 0 bears half of 1", 0, x.told(0, 5));
        x = Worlds.still(60, 2);
        x.turn(0, 1, 0);
        x.train(40, 9, 1);
        x.hours(1);
        x.frost(0, 30);
        x.hours(1);
        due.is("a bridge that wants 60: 30", 0, x.told(0, 5));
        x.frost(0, 29);
        x.hours(1);
        due.is("a bridge that wants 60: 29", 2, x.told(0, 5));
    }

    private static void back() {
        RailsOfIce x = new RailsOfIce();
        x.train(40, 1, 1);
        due.is("none", -3, x.back());
        x.turn(2, 5, 7);
        x.frost(2, 11);
        x.waits(0, 2);
        x.weather(0, 9);
        x.weather(1, 8);
        x.hours(20);
        due.is("six", 6, x.count(8));
        due.is("hours back", 5, x.back());
        due.is("HOUR", 0, x.count(2));
        due.is("AT", -1, x.told(0, 3));
        due.is("WAITS", 2, x.told(0, 4));
        due.is("FROST", 40, x.yard(0, 2));
        due.is("noon back", 4, x.back());
        due.is("noon", 4, x.count(4));
        due.is("cold is", 9, x.count(3));
        due.is("cold back", 3, x.back());
        due.is("cold", 3, x.count(3));
        due.is("waits back", 2, x.back());
        due.is("waits", 0, x.told(0, 4));
        due.is("frost back", 1, x.back());
        due.is("frost", 40, x.yard(2, 2));
        due.is("kind is", 5, x.yard(2, 0));
        due.is("turn back", 0, x.back());
        due.is("kind", 0, x.yard(2, 0));
        due.is("figure", 0, x.yard(2, 1));
        due.is("none more", -3, x.back());
        for (int v = 0; v < 10; v++) {
            x.frost(0, v);
        }
        due.is("eight at most", 8, x.count(8));
        for (int left = 7; left >= 0; left--) {
            due.is("back", left, x.back());
        }
        due.is("the ninth is no more", -3, x.back());
        due.is("so it is as two had made it", 1, x.yard(0, 2));
        x.hours(4);
        x.image();
        due.is("image leaves them", 1, x.count(8));
        x.row(3);
        x.feed('n');
        due.is("back", 0, x.back());
        due.is("the row stays", 1, x.count(7));
        due.is("letters stay", 1, x.count(6));
    }

    private static void row() {
        RailsOfIce x = new RailsOfIce();
        due.is("below", -4, x.row(-1));
        due.is("above", -6, x.row(100));
        due.is("row(0)", 1, x.row(0));
        for (int i = 2; i <= 16; i++) {
            due.is("row(99)", i, x.row(99));
        }
        due.is("the 17th", -6, x.row(5));
        due.is("the 17th below", -4, x.row(-5));
        due.is("16", 16, x.count(7));
    }

    private static void judge() {
        RailsOfIce x = new RailsOfIce();
        Worlds.row(x, 43, 43, 43);
        due.is("below", -4, x.judge(-1));
        due.is("above", -6, x.judge(73));
        due.is("it stays", 3, x.count(7));
        due.is("so", -9, x.judge(1));
        due.is("none then", 0, x.count(7));
        Worlds.row(x, 40, 40, 41, 42);
        due.is("the third", 2, x.judge(0));
        due.is("none then", 0, x.count(7));
        x.many(2);
        Worlds.row(x, 76, 76, 76);
        due.is("no such one", 2, x.judge(72));
        x.frost(1, 99);
        Worlds.row(x, 40, 99);
        due.is("99 is a number here", -9, x.judge(0));
        Worlds.row(x, 99, 99);
        due.is("99 is not so", 0, x.judge(0));
        due.is("without a row", -9, x.judge(5));
    }

    private static void clear() {
        RailsOfIce x = new RailsOfIce();
        due.is("clear", 0, x.clear());
        Worlds.row(x, 1, 2, 3);
        due.is("clear", 3, x.clear());
        due.is("none", 0, x.count(7));
        due.is("row", 1, x.row(7));
    }

    private static void image() {
        RailsOfIce x = new RailsOfIce();
        due.is("none", -3, x.restore());
        x.many(12);
        x.frost(11, 7);
        x.turn(10, 5, 3);
        x.many(9);
        x.train(40, 2, 1);
        x.waits(0, 1);
        x.weather(0, 5);
        x.weather(1, 6);
        x.hours(4);
        due.is("image", 4, x.image());
        x.many(16);
        x.frost(11, 70);
        x.turn(10, 0, 0);
        x.weather(0, 1);
        x.weather(1, 1);
        x.train(1, 1, 1);
        x.hours(72);
        Worlds.row(x, 1, 2);
        x.feed('c');
        due.is("restore", 4, x.restore());
        due.is("yards", 9, x.count(0));
        due.is("trains", 1, x.count(1));
        due.is("HOUR", 4, x.count(2));
        due.is("cold", 5, x.count(3));
        due.is("noon", 6, x.count(4));
        due.is("frost", 9 * 60 - 3 * 2, x.count(5));
        due.is("at", 2, x.told(0, 3));
        due.is("letters", 1, x.count(6));
        due.is("row", 2, x.count(7));
        due.is("none to be taken back", 0, x.count(8));
        due.is("refusals stay", 1, x.count(13));
        x.many(12);
        due.is("yards beyond too", 7, x.yard(11, 2));
        due.is("yards beyond too", 5, x.yard(10, 0));
        x.hours(3);
        due.is("again", 4, x.restore());
        due.is("again yards", 9, x.count(0));
        x.hours(1);
        due.is("a later image", 5, x.image());
        x.hours(1);
        due.is("is it", 5, x.restore());
    }

    private static void count() {
        RailsOfIce x = new RailsOfIce();
        x.yard(-1, 0);
        x.yard(0, 9);
        x.yard(0, 9);
        x.back();
        x.feed(-1);
        x.feed(-1);
        x.feed(-1);
        x.noons(0, 0);
        x.feed(999);
        int[] counts = {2, 2, 1, 3, 0, 1};
        for (int i = 0; i < 6; i++) {
            due.is("count(" + (11 + i) + ")", counts[i], x.count(11 + i));
        }
        int[] others = {-1, 9, 10, 17, Integer.MIN_VALUE, Integer.MAX_VALUE};
        for (int what : others) {
            due.is("count(" + what + ")", -9, x.count(what));
        }
        due.is("that is no refusal", 2, x.count(12));
        x.pourFirst();
        due.is("nor is another -9", 2, x.count(11));
    }
}
