/** Objects that many tests begin with. */
final class Worlds {
    private Worlds() {
    }

    /** Plain yards of these frosts, without cold and noon, so that only trains change them. */
    static RailsOfIce still(int... frosts) {
        RailsOfIce x = new RailsOfIce();
        x.many(frosts.length);
        for (int yard = 0; yard < frosts.length; yard++) {
            x.frost(yard, frosts[yard]);
        }
        x.weather(0, 0);
        x.weather(1, 0);
        return x;
    }

    static RailsOfIce still40() {
        return still(40, 40, 40, 40, 40, 40, 40, 40);
    }

    /**
     * Two yards at HOUR 6 that freeze 1 an hour, 12 hours a day, and do not melt: with 6 now they bear
     * 40 in HOUR 75, so that a train of pace 1 is through in HOUR 77, the 72nd from now.
     */
    static RailsOfIce slowFrost(int frost) {
        RailsOfIce x = Worlds.still(40, 40);
        x.hours(6);
        x.weather(0, 1);
        x.frost(0, frost);
        x.frost(1, frost);
        x.train(40, 0, 1);
        return x;
    }

    /** Hours go by until HOUR is so. */
    static void toHour(RailsOfIce x, int hour) {
        for (int left = hour - x.count(2); left > 0; left -= 72) {
            x.hours(Math.min(72, left));
        }
    }

    static void feed(RailsOfIce x, String text) {
        for (int i = 0; i < text.length(); i++) {
            x.feed(text.charAt(i));
        }
    }

    /** The letters of a text, and then line(). */
    static int line(RailsOfIce x, String text) {
        feed(x, text);
        return x.line();
    }

    /**
     * Six yards of many kinds at HOUR 6; TRAIN 0 is through, 1 in the LAKE of yard 2, 2 on yard 2, 3 ahead;
     * letters, a ROW, THE IMAGE of HOUR 4, and 8 that can be TAKEN BACK.
     */
    static RailsOfIce rich() {
        RailsOfIce x = still(40, 40, 40, 40, 40, 40);
        x.train(40, 0, 3);
        x.train(30, 0, 1);
        x.train(20, 0, 1);
        x.train(10, 0, 1);
        x.waits(3, 40);
        x.hours(3);
        x.waits(1, 1);
        x.frost(2, 0);
        x.hours(1);
        x.frost(2, 50);
        x.image();
        x.turn(0, 1, 2);
        x.turn(3, 3, 4);
        x.turn(5, 4, 9);
        x.frost(4, 33);
        x.weather(1, 5);
        x.weather(0, 2);
        x.hours(1);
        x.waits(2, 2);
        x.waits(3, 30);
        x.hours(1);
        feed(x, "n05;c");
        row(x, 42, 42, 99);
        return x;
    }

    /** Nothing more goes into it: five TRAINS, 96 letters, a ROW of 16, HOUR 999, 8 that can be TAKEN BACK. */
    static RailsOfIce full() {
        RailsOfIce x = still(40, 40, 40, 40);
        for (int train = 0; train < 5; train++) {
            x.train(41 + train, 9, 3);
        }
        x.image();
        toHour(x, 999);
        for (int letter = 0; letter < 24; letter++) {
            feed(x, "c12;");
        }
        for (int number = 0; number < 16; number++) {
            x.row(40);
        }
        return x;
    }

    static void row(RailsOfIce x, int... numbers) {
        for (int number : numbers) {
            x.row(number);
        }
    }
}
