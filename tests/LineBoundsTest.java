/** Promises 2 and 3, and a LINE in "Terms": each boundary that they name. Worked out by hand. */
public final class LineBoundsTest {
    private static final Due due = new Due("LineBoundsTest");
    /** A statement of each kind that is as it must be on a new object. */
    private static final String[] STATEMENTS = {"n12;", "y075999;", "t6093;", "c99;", "h72;"};

    public static void main(String[] args) {
        letters();
        allLetters();
        nothingTold();
        everyPlaceOfAStatement();
        everyPlaceBehindOne();
        signsBesideDigits();
        fullOfLetters();
        mostStatements();
        yardsThereAre();
        oneYard();
        aTrain();
        aTrainWaits();
        coldAndNoon();
        hoursOfALine();
        hourUpTo999();
        noRoom();
        takenAway();
        behindAllAhead();
        faultsInOrder();
        allOfItComesOrNothing();
        lettersAreNoMore();
        nothingIsCounted();
        due.end();
    }

    private static void is(String text, int answer) {
        due.is("a LINE of \"" + text + "\"", answer, Worlds.line(new RailsOfIce(), text));
    }

    private static void letters() {
        RailsOfIce x = new RailsOfIce();
        due.is("letters at first", 0, x.count(6));
        due.is("below 0", -4, x.feed(-1));
        due.is("0", 1, x.feed(0));
        due.is("255", 2, x.feed(255));
        due.is("above 255", -6, x.feed(256));
        due.is("letters", 2, x.count(6));
        x = new RailsOfIce();
        for (int letter = 1; letter <= 96; letter++) {
            due.is("letter " + letter, letter, x.feed(';'));
        }
        due.is("the 97th", -6, x.feed(';'));
        due.is("96", 96, x.count(6));
        x.line();
        due.is("there is room again", 1, x.feed(';'));
    }

    /** No letter but those that begin a statement can be the first. */
    private static void allLetters() {
        for (int letter = 0; letter <= 255; letter++) {
            RailsOfIce x = new RailsOfIce();
            x.feed(letter);
            due.is("the letter " + letter, "nytwch".indexOf(letter) >= 0 ? -1001 : -1000, x.line());
        }
    }

    private static void nothingTold() {
        RailsOfIce x = new RailsOfIce();
        due.is("no letter", -1000, x.line());
        due.is("nor behind that", -1000, x.line());
        x.feed(-1);
        due.is("one refused is none", -1000, x.line());
        is(";", -1000);
        is("n12;;", -1004);
    }

    private static void everyPlaceOfAStatement() {
        String[] statements = {"n12;", "y075999;", "t6093;", "w048;", "c99;", "h72;"};
        for (String statement : statements) {
            for (int place = 0; place < statement.length(); place++) {
                is(statement.substring(0, place), -1000 - place);
                is(statement.substring(0, place) + "x" + statement.substring(place + 1), -1000 - place);
            }
            for (int place = 1; place < statement.length() - 1; place++) {
                is(statement.substring(0, place) + ";", -1000 - place);
                is(statement.substring(0, place) + "/" + statement.substring(place + 1), -1000 - place);
                is(statement.substring(0, place) + ":" + statement.substring(place + 1), -1000 - place);
            }
            int last = statement.length() - 1;
            is(statement.substring(0, last) + "0;", -1000 - last);
            is(statement.substring(0, last) + "n12;", -1000 - last);
        }
    }

    private static void everyPlaceBehindOne() {
        for (String statement : STATEMENTS) {
            is(statement, 1);
            is(statement + "c12;", 2);
            is("c12;" + statement, 2);
            for (int place = 0; place < statement.length(); place++) {
                if (place > 0) {
                    is("c12;" + statement.substring(0, place), -1004 - place);
                }
                is("c12;" + statement.substring(0, place) + "x", -1004 - place);
            }
            is(statement + "x", -1000 - statement.length());
            is(statement + "0", -1000 - statement.length());
        }
    }

    private static void signsBesideDigits() {
        is("c00;", 1);
        is("c09;", 1);
        is("c90;", 1);
        is("c0/;", -1002);
        is("c0:;", -1002);
        is("c -;", -1001);
        is("c-1;", -1001);
        is("c12:", -1003);
        is("c12<", -1003);
        is("C12;", -1000);
        is(" c12;", -1000);
        is("c12; ", -1004);
        is("c12;\n", -1004);
    }

    private static String twelves(int statements) {
        StringBuilder text = new StringBuilder();
        for (int i = 0; i < statements; i++) {
            text.append("c12;");
        }
        return text.toString();
    }

    private static void fullOfLetters() {
        is(twelves(24), 24);
        is(twelves(23) + "c12", -1095);
        is(twelves(23) + "c12x", -1095);
        is(twelves(23) + "w048", -1096);
        is(twelves(23) + "t609", -1096);
        is(twelves(23) + "xxxx", -1092);
        is("x" + twelves(23) + "c12", -1000);
        is(twelves(23) + "n01;", -2092);
        is(twelves(23) + "h00;", -2092);
        RailsOfIce x = new RailsOfIce();
        Worlds.feed(x, twelves(24));
        due.is("one letter too many is none of them", -6, x.feed('x'));
        due.is("24", 24, x.line());
        due.is("COLD", 1, x.count(3));
    }

    private static void mostStatements() {
        is("y000001;y000002;y000003;y000004;y000005;y000006;y000007;y000008;y000009;y000010;y000011;y000012;", 12);
        is("t0101;t0101;t0101;t0101;t0101;w000;w148;w200;w348;w400;c00;c99;h01;h72;n16;n08;", 16);
        is("c12;", 1);
    }

    private static void yardsThereAre() {
        is("n00;", -2000);
        is("n01;", -2000);
        is("n02;", 1);
        is("n16;", 1);
        is("n17;", -2000);
        is("n99;", -2000);
        is("n08;", 1);
        RailsOfIce x = new RailsOfIce();
        Worlds.line(x, "y075999;n02;");
        due.is("two", 2, x.count(0));
        Worlds.line(x, "n08;");
        due.is("beyond they stay as they were", 5, x.yard(7, 0));
        due.is("FIGURE too", 9, x.yard(7, 1));
        due.is("FROST too", 99, x.yard(7, 2));
        Worlds.line(x, "n16;");
        due.is("sixteen", 16, x.count(0));
    }

    private static void oneYard() {
        is("y000000;", 1);
        is("y070000;", 1);
        is("y080000;", -2000);
        is("y990000;", -2000);
        is("n16;y150000;", 2);
        is("n16;y160000;", -2004);
        is("n02;y010000;", 2);
        is("n02;y020000;", -2004);
        is("y005000;", 1);
        is("y006000;", -2000);
        is("y009000;", -2000);
        is("y000900;", 1);
        is("y000099;", 1);
        RailsOfIce x = new RailsOfIce();
        due.is("the least", 1, Worlds.line(x, "y000000;"));
        due.is("FROST 0", 0, x.yard(0, 2));
        due.is("the greatest", 1, Worlds.line(x, "y075999;"));
        due.is("KIND 5", 5, x.yard(7, 0));
        due.is("FIGURE 9", 9, x.yard(7, 1));
        due.is("FROST 99", 99, x.yard(7, 2));
        due.is("KIND, FIGURE, FROST", 1, Worlds.line(x, "y033456;"));
        due.is("KIND 3", 3, x.yard(3, 0));
        due.is("FIGURE 4", 4, x.yard(3, 1));
        due.is("FROST 56", 56, x.yard(3, 2));
    }

    private static void aTrain() {
        is("t0001;", -2000);
        is("t0101;", 1);
        is("t6001;", 1);
        is("t6101;", -2000);
        is("t9901;", -2000);
        is("t0100;", -2000);
        is("t0103;", 1);
        is("t0104;", -2000);
        is("t0109;", -2000);
        is("t0193;", 1);
        RailsOfIce x = new RailsOfIce();
        Worlds.line(x, "t6093;t0101;");
        int[] greatest = {60, 9, 3, -1, 0, 0};
        int[] least = {1, 0, 1, -1, 0, 0};
        for (int what = 0; what <= 5; what++) {
            due.is("the greatest", greatest[what], x.told(0, what));
            due.is("the least", least[what], x.told(1, what));
        }
    }

    private static void aTrainWaits() {
        is("w000;", -2000);
        is("w900;", -2000);
        is("t0101;w000;", 2);
        is("t0101;w048;", 2);
        is("t0101;w049;", -2006);
        is("t0101;w099;", -2006);
        is("t0101;w100;", -2006);
        is("t0101;t0101;t0101;t0101;t0101;w448;", 6);
        is("t0101;t0101;t0101;t0101;t0101;w548;", -2030);
        is("t0101;h03;w048;", 3);
        is("t0101;h09;w048;", -2010);
        RailsOfIce x = new RailsOfIce();
        Worlds.line(x, "t0101;w048;");
        due.is("WAITS", 48, x.told(0, 4));
    }

    private static void coldAndNoon() {
        RailsOfIce x = new RailsOfIce();
        due.is("the least", 1, Worlds.line(x, "c00;"));
        due.is("COLD", 0, x.count(3));
        due.is("NOON", 0, x.count(4));
        due.is("the greatest", 1, Worlds.line(x, "c99;"));
        due.is("COLD", 9, x.count(3));
        due.is("NOON", 9, x.count(4));
        due.is("COLD is the first digit", 1, Worlds.line(x, "c90;"));
        due.is("COLD", 9, x.count(3));
        due.is("NOON", 0, x.count(4));
    }

    private static void hoursOfALine() {
        is("h00;", -2000);
        is("h01;", 1);
        is("h72;", 1);
        is("h73;", -2000);
        is("h99;", -2000);
        RailsOfIce x = new RailsOfIce();
        Worlds.line(x, "h01;");
        due.is("HOUR", 1, x.count(2));
        due.is("FROST", 43, x.yard(0, 2));
        Worlds.line(x, "h72;");
        due.is("HOUR", 73, x.count(2));
    }

    private static void hourUpTo999() {
        is("h72;h72;h72;h72;h72;h72;h72;h72;h72;h72;h72;h72;h72;h63;", 14);
        is("h72;h72;h72;h72;h72;h72;h72;h72;h72;h72;h72;h72;h72;h64;", -2052);
        is("h72;h72;h72;h72;h72;h72;h72;h72;h72;h72;h72;h72;h72;h63;h01;", -2056);
        is("h72;h72;h72;h72;h72;h72;h72;h72;h72;h72;h72;h72;h72;h63;h00;", -2056);
        RailsOfIce x = new RailsOfIce();
        Worlds.toHour(x, 927);
        due.is("to 999", 1, Worlds.line(x, "h72;"));
        due.is("HOUR", 999, x.count(2));
        due.is("to 1000", -2000, Worlds.line(x, "h01;"));
        due.is("HOUR", 999, x.count(2));
        due.is("all else can be told", 1, Worlds.line(x, "c12;"));
    }

    private static void noRoom() {
        is("t0101;t0101;t0101;t0101;t0101;", 5);
        is("t0101;t0101;t0101;t0101;t0101;t0101;", -2030);
        RailsOfIce x = new RailsOfIce();
        for (int train = 0; train < 4; train++) {
            x.train(1, 0, 1);
        }
        due.is("two more", -2006, Worlds.line(x, "t0101;t0101;"));
        due.is("none came", 4, x.count(1));
        due.is("the fifth", 1, Worlds.line(x, "t0101;"));
        due.is("the sixth", -2000, Worlds.line(x, "t0101;"));
        due.is("five", 5, x.count(1));
    }

    private static void takenAway() {
        is("t0101;h03;n02;", -2010);
        is("t0101;h03;n03;", 3);
        is("t0101;h02;n02;", 3);
        is("t0101;n02;", 2);
        is("t0101;h09;n02;", 3);
        is("t0103;h01;y020099;w048;n02;", -2023);
        // By COLD 3 it is 10, half of 20, or 9.
        is("t2003;h01;y020007;w048;h01;n02;", -2027);
        is("t2003;h01;y020006;w048;h01;n02;", 6);
    }

    private static void behindAllAhead() {
        is("n16;y155999;", 2);
        is("y155999;n16;", -2000);
        is("w048;t0101;", -2000);
        is("t0101;w048;", 2);
        is("n02;n16;y155999;", 3);
        is("n16;n02;y155999;", -2008);
        is("c90;y000099;h01;", 3);
    }

    private static void faultsInOrder() {
        is("n01;n17;", -2000);
        is("c12;n17;n01;", -2004);
        is("n99;n", -1005);
        is("n99;x", -1004);
        is("n99;n08", -1007);
        is("n99", -1003);
        is("t0001;w000;h00;y", -1016);
    }

    private static void allOfItComesOrNothing() {
        String[] faults = {"n16;t0131;w048;c99;y075900;h72;n01;", "t0131;h72;x", "h01;h00;"};
        for (String fault : faults) {
            RailsOfIce x = new RailsOfIce();
            due.holds("a FAULT", Worlds.line(x, fault) < 0);
            due.same("nothing came of " + fault, Whole.of(new RailsOfIce(), 0), Whole.of(x, 0));
        }
        RailsOfIce x = new RailsOfIce();
        due.is("without", 6, Worlds.line(x, "n16;t4131;w048;c90;y155900;h24;"));
        due.is("YARDS", 16, x.count(0));
        due.is("TRAINS", 1, x.count(1));
        due.is("WAITS", 24, x.told(0, 4));
        due.is("HOUR", 24, x.count(2));
        due.is("COLD", 9, x.count(3));
        due.is("FROST", 99, x.yard(15, 2));
    }

    private static void lettersAreNoMore() {
        String[] texts = {"", "c12;", "c12", "n01;", "x"};
        for (String text : texts) {
            RailsOfIce x = new RailsOfIce();
            Worlds.line(x, text);
            due.is("no letters behind \"" + text + "\"", 0, x.count(6));
            due.is("nothing told behind it", -1000, x.line());
        }
    }

    private static void nothingIsCounted() {
        RailsOfIce x = new RailsOfIce();
        x.line();
        Worlds.line(x, "n01;");
        Worlds.line(x, "y990000;");
        Worlds.line(x, "w000;");
        Worlds.line(x, "t0101;h09;w000;");
        Worlds.line(x, "h00;");
        for (int what = 11; what <= 16; what++) {
            due.is("REFUSALS", 0, x.count(what));
        }
    }
}
