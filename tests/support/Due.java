/** Compares answers with what is due, and ends a test. */
final class Due {
    private final String test;
    private int asked = 0;
    private int wrong = 0;

    Due(String test) {
        this.test = test;
    }

    void is(String call, long due, long got) {
        asked++;
        if (got != due) {
            wrong++;
            System.out.println(test + ": " + call + " answered " + got + ", due is " + due);
        }
    }

    void same(String what, String due, String got) {
        asked++;
        if (!due.equals(got)) {
            wrong++;
            System.out.println(test + ": " + what + " is\n" + got + "\ndue is\n" + due);
        }
    }

    void holds(String what, boolean so) {
        is(what, 1, so ? 1 : 0);
    }

    void end() {
        System.out.println(test + ": " + asked + " answers, " + wrong + " wrong");
        if (wrong != 0 || asked == 0) {
            System.exit(1);
        }
    }
}
