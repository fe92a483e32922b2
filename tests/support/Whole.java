/**
 * All that can be seen of an object, told in one text: what is there, the ROW, what can be TAKEN BACK,
 * the letters, THE IMAGE, YARDS beyond, REFUSALS. The object is used up by it.
 */
final class Whole {
    private Whole() {
    }

    // An object may be asked 512 times: what a call tells a second time is left out behind each back().

    /** With refused below 0, one REFUSAL of that number is taken off, so that only others are seen. */
    static String of(RailsOfIce x, int refused) {
        StringBuilder all = new StringBuilder("refused");
        for (int what = 11; what <= 16; what++) {
            all.append(' ').append(x.count(what) - (refused == 10 - what ? 1 : 0));
        }
        counts(all.append("\ncounts"), x);
        trains(all.append("\ntrains"), x);
        yards(all.append("\nyards"), x);
        row(all.append("\nrow"), x);
        takenBack(all, x);
        all.append("\nline ").append(x.line());
        counts(all.append(" counts"), x);
        all.append("\nrestore ").append(x.restore());
        counts(all.append(" counts"), x);
        places(all, x);
        all.append("\nmany ").append(x.many(16));
        yards(all.append(" yards"), x);
        return all.toString();
    }

    private static void counts(StringBuilder all, RailsOfIce x) {
        for (int what = 0; what <= 8; what++) {
            all.append(' ').append(x.count(what));
        }
    }

    private static void trains(StringBuilder all, RailsOfIce x) {
        int many = x.count(1);
        for (int train = 0; train < many; train++) {
            for (int what = 0; what <= 5; what++) {
                all.append(' ').append(x.told(train, what));
            }
            all.append(';');
        }
    }

    private static void places(StringBuilder all, RailsOfIce x) {
        all.append(" at");
        int many = x.count(1);
        for (int train = 0; train < many; train++) {
            all.append(' ').append(x.told(train, 3)).append('w').append(x.told(train, 4));
        }
    }

    private static void yards(StringBuilder all, RailsOfIce x) {
        int many = x.count(0);
        for (int yard = 0; yard < many; yard++) {
            for (int what = 0; what <= 2; what++) {
                all.append(' ').append(x.yard(yard, what));
            }
            all.append(';');
        }
    }

    private static void row(StringBuilder all, RailsOfIce x) {
        all.append(' ').append(x.said()).append(' ').append(x.lies()).append(' ').append(x.judge(0));
    }

    private static void takenBack(StringBuilder all, RailsOfIce x) {
        int left = x.count(8);
        for (int i = 0; i < left; i++) {
            all.append("\nback ").append(x.back()).append(" counts");
            for (int what = 2; what <= 5; what++) {
                all.append(' ').append(x.count(what));
            }
            places(all, x);
        }
    }
}
