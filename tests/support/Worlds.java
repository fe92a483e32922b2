/** Objects that many tests begin with. */
final class Worlds {
    private Worlds() {
    }

    /** Plain yards of these frosts, without cold and noon, so that only trains change them. */
    static RailsOfIce still(int... frosts) {
        RailsOfIce x = new RailsOfIce();
        x.many(frosts.length);
        for (int yard = 0; yard < frosts.length; yard++) {
            x.frost(yard, frosts[yard]);
        }
        x.weather(0, 0);
        x.weather(1, 0);
        return x;
    }

    static RailsOfIce still40() {
        return still(40, 40, 40, 40, 40, 40, 40, 40);
    }

    /** The letters of a text, and then line(). */
    static int line(RailsOfIce x, String text) {
        for (int i = 0; i < text.length(); i++) {
            x.feed(text.charAt(i));
        }
        return x.line();
    }

    static void row(RailsOfIce x, int... numbers) {
        for (int number : numbers) {
            x.row(number);
        }
    }
}
