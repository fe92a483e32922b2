import java.lang.reflect.Method;
import java.util.Random;

/** Runs of calls by lot, each answered by the class and by Slow: both must say the same. */
public final class RandomRunsTest {
    private static final int RUNS = Integer.getInteger("runs", 150);
    private static final int CALLS = 512;

    /** Name, kinds of arguments, how often. */
    private static final String[] CALLS_BY_LOT = {
        "yard ys 3", "turn ykf 12", "frost yF 12", "weather qf 8", "many N 2", "train wWp 8", "told ts 8",
        "waits tx 6", "hours H 8", "back - 5", "frostIn yh 4", "trainIn thr 8", "through hq 4", "thin hw 3",
        "lasts yw 3", "lowest hq 3", "last t 3", "bestWait tq 3", "heaviest tr 3", "pourFirst - 3",
        "pourFewest t 3", "strongest w 2", "order q 3", "timetable tt 3", "said - 2", "lies - 2", "tells - 2",
        "near y 2", "rescue t 3", "march r 4", "noons tq 3", "thaw - 2", "noon t 3", "needed yt 3", "key - 3",
        "blocker - 4", "mean hq 3", "runs wq 3", "day - 2", "stands t 3", "row R 4", "judge h 1", "clear - 1",
        "lots mzq 3", "image - 2", "restore - 2", "count c 12", "LINE - 6", "ROW - 3", "LETTER - 1"};

    private static final Due due = new Due("RandomRunsTest");
    private static Random lot;
    private static RailsOfIce quick;
    private static Slow slow;
    /** The last frost that was asked for, for rows that may be judged well. */
    private static String told;

    public static void main(String[] args) throws Exception {
        for (int run = 0; run < RUNS; run++) {
            lot = new Random(run);
            quick = new RailsOfIce();
            slow = new Slow();
            told = "";
            prepare(run);
            for (int call = 0; call < CALLS && !wrong; call++) {
                callByLot(run);
            }
            if (wrong) {
                System.out.println("run " + run + ":" + told);
                break;
            }
        }
        due.end();
    }

    private static boolean wrong = false;

    /** Ice that some trains get over, or nearly. */
    private static void prepare(int run) throws Exception {
        int most = 2 + lot.nextInt(run % 5 == 0 ? 15 : 6);
        call("many", most);
        int base = lot.nextInt(100);
        int spread = 1 + lot.nextInt(30);
        for (int yard = 0; yard < most; yard++) {
            call("frost", yard, Math.min(99, base + lot.nextInt(spread)));
            call("turn", yard, lot.nextInt(3) == 0 ? lot.nextInt(6) : 0, lot.nextInt(10));
        }
        call("weather", 0, lot.nextInt(3) == 0 ? 0 : lot.nextInt(10));
        call("weather", 1, lot.nextInt(3) == 0 ? 0 : lot.nextInt(10));
        call("hours", 1 + lot.nextInt(24));
        int trains = lot.nextInt(6);
        for (int train = 0; train < trains; train++) {
            call("train", Math.max(1, Math.min(60, base + lot.nextInt(30) - 15)), lot.nextInt(10), 1 + lot.nextInt(3));
        }
    }

    private static void callByLot(int run) throws Exception {
        int all = 0;
        for (String row : CALLS_BY_LOT) {
            all += Integer.parseInt(row.split(" ")[2]);
        }
        int drawn = lot.nextInt(all);
        for (String row : CALLS_BY_LOT) {
            String[] parts = row.split(" ");
            drawn -= Integer.parseInt(parts[2]);
            if (drawn < 0) {
                callNamed(parts[0], parts[1].equals("-") ? "" : parts[1]);
                return;
            }
        }
    }

    private static void callNamed(String name, String kinds) throws Exception {
        if (name.equals("LINE")) {
            feedText(lineByLot());
            call("line");
        } else if (name.equals("LETTER")) {
            call("feed", lot.nextInt(300) - 20);
        } else if (name.equals("ROW")) {
            int n = lot.nextInt(5);
            for (int yard = 0; yard < slow.now.many; yard++) {
                call("row", new Slow.World(slow.now).after(n).yards.get(yard).frost);
            }
            call("judge", n);
        } else {
            Object[] args = new Object[kinds.length()];
            for (int i = 0; i < args.length; i++) {
                args[i] = argument(kinds.charAt(i));
            }
            call(name, args);
        }
    }

    private static int argument(char kind) {
        int[] range = switch (kind) {
            case 'y' -> new int[] {0, slow.now.many - 1};
            case 't' -> new int[] {0, Math.max(0, slow.now.trains.size() - 1)};
            case 'k', 's' -> new int[] {0, 5};
            case 'f', 'W' -> new int[] {0, 9};
            case 'F', 'R' -> new int[] {0, 99};
            case 'h' -> new int[] {0, 72};
            case 'H' -> new int[] {1, lot.nextInt(4) == 0 ? 72 : 8};
            case 'w' -> new int[] {1, 60};
            case 'p' -> new int[] {1, 3};
            case 'x' -> new int[] {0, 48};
            case 'N' -> new int[] {2, 16};
            case 'q' -> new int[] {0, 1};
            case 'r' -> new int[] {0, 2};
            case 'c' -> new int[] {0, 17};
            case 'm' -> new int[] {1, 20};
            default -> new int[] {Integer.MIN_VALUE, Integer.MAX_VALUE};
        };
        if (kind == 'z') {
            return lot.nextInt();
        }
        if (kind == 'R' && lot.nextInt(3) > 0) {
            return lot.nextBoolean() ? 99 : 4;
        }
        if (lot.nextInt(25) == 0) {
            int[] odd = {range[0] - 1, range[1] + 1, Integer.MIN_VALUE, Integer.MAX_VALUE, -1, 100};
            return odd[lot.nextInt(odd.length)];
        }
        if (lot.nextInt(10) == 0) {
            return lot.nextBoolean() ? range[0] : range[1];
        }
        return range[0] + lot.nextInt(range[1] - range[0] + 1);
    }

    private static String lineByLot() {
        StringBuilder text = new StringBuilder();
        int statements = 1 + lot.nextInt(4);
        for (int i = 0; i < statements; i++) {
            String statement = switch (lot.nextInt(6)) {
                case 0 -> "n" + two(2 + lot.nextInt(16)) + ";";
                case 1 -> "y" + two(lot.nextInt(slow.now.many + (lot.nextInt(5) == 0 ? 3 : 0)))
                        + lot.nextInt(lot.nextInt(8) == 0 ? 10 : 6) + lot.nextInt(10) + two(lot.nextInt(100)) + ";";
                case 2 -> "t" + two(lot.nextInt(63)) + lot.nextInt(10) + (lot.nextInt(3) + 1) + ";";
                case 3 -> "w" + lot.nextInt(1 + slow.now.trains.size()) + two(lot.nextInt(51)) + ";";
                case 4 -> "c" + lot.nextInt(10) + lot.nextInt(10) + ";";
                default -> "h" + two(lot.nextInt(lot.nextInt(4) == 0 ? 75 : 6)) + ";";
            };
            text.append(statement);
        }
        if (lot.nextInt(6) == 0 && text.length() > 0) {
            int at = lot.nextInt(text.length());
            text.setCharAt(at, "ntwych;0169 x".charAt(lot.nextInt(13)));
        }
        if (lot.nextInt(10) == 0) {
            text.setLength(lot.nextInt(text.length() + 1));
        }
        return text.toString();
    }

    private static String two(int v) {
        return v < 10 ? "0" + v : "" + v;
    }

    private static void feedText(String text) throws Exception {
        for (char letter : text.toCharArray()) {
            call("feed", (int) letter);
        }
    }

    private static void call(String name, Object... args) throws Exception {
        Class<?>[] types = new Class<?>[args.length];
        StringBuilder words = new StringBuilder(name).append("(");
        for (int i = 0; i < args.length; i++) {
            types[i] = int.class;
            words.append(i > 0 ? ", " : "").append(args[i]);
        }
        words.append(")");
        told += " " + words;
        Method of = RailsOfIce.class.getMethod(name, types);
        Method with = Slow.class.getDeclaredMethod(name, types);
        long got = ((Number) of.invoke(quick, args)).longValue();
        long wanted = ((Number) with.invoke(slow, args)).longValue();
        wrong |= got != wanted;
        due.is(words.toString(), wanted, got);
        statistics(name, got);
    }

    private static final java.util.TreeMap<String, int[]> seen = new java.util.TreeMap<>();

    private static void statistics(String name, long got) {
        int[] row = seen.computeIfAbsent(name, k -> new int[3]);
        row[got == -9 ? 0 : got < 0 ? 1 : 2]++;
    }

    static {
        if (Boolean.getBoolean("tell")) {
            Runtime.getRuntime().addShutdownHook(new Thread(() -> seen.forEach((name, row) -> System.out.println(
                    name + ": -9 " + row[0] + ", below 0 " + row[1] + ", others " + row[2]))));
        }
    }
}
