import java.io.PrintWriter;
import java.io.StringWriter;
import java.util.ArrayList;
import java.util.HashMap;
import java.util.List;
import java.util.Map;
import java.util.Set;
import java.util.TreeSet;
import java.util.regex.Matcher;
import java.util.regex.Pattern;
import java.util.spi.ToolProvider;

/** Calls go at most eight deep, and none calls itself (LANGUAGE.md, rules 8 and 11). */
public final class DepthTest {
    private static final Due due = new Due("DepthTest");
    private static final Map<String, Set<String>> calls = new HashMap<>();

    public static void main(String[] args) {
        List<String> options = new ArrayList<>(List.of("-c", "-p", "-cp", System.getProperty("java.class.path"),
                "RailsOfIce"));
        for (Class<?> part : RailsOfIce.class.getDeclaredClasses()) {
            options.add(part.getName());
        }
        StringWriter told = new StringWriter();
        ToolProvider.findFirst("javap").orElseThrow().run(new PrintWriter(told), new PrintWriter(System.err, true),
                options.toArray(new String[0]));
        read(told.toString());
        due.holds("methods were read", calls.size() > 100);
        for (String method : calls.keySet()) {
            due.holds(method + " goes eight deep at most", depth(method, 0) <= 8);
        }
        due.end();
    }

    private static void read(String told) {
        Pattern part = Pattern.compile("^(?:public |private |static )*final class (\\S+) .*");
        Pattern method = Pattern.compile("^  (?:[\\w\\[\\].$]+ )*([\\w$]+)\\(.*\\);$");
        Pattern call = Pattern.compile("// Method (?:([\\w$/]+)\\.)?\"?([\\w<>]+)\"?:");
        String inside = "";
        Set<String> current = null;
        for (String line : told.split("\n")) {
            Matcher m = part.matcher(line);
            if (m.matches()) {
                inside = m.group(1);
            }
            m = method.matcher(line);
            if (m.matches()) {
                String name = m.group(1).equals(inside) ? "<init>" : m.group(1);
                current = calls.computeIfAbsent(inside + "." + name, k -> new TreeSet<>());
            }
            m = call.matcher(line);
            if (m.find() && current != null) {
                current.add((m.group(1) == null ? inside : m.group(1)) + "." + m.group(2));
            }
        }
    }

    /** Far above eight if calls run in a ring. */
    private static int depth(String method, int above) {
        if (above > 20) {
            return above;
        }
        int deepest = 0;
        for (String called : calls.get(method)) {
            if (calls.containsKey(called)) {
                deepest = Math.max(deepest, depth(called, above + 1));
            }
        }
        return deepest + 1;
    }
}
