import java.lang.reflect.Method;
import java.lang.reflect.Modifier;
import java.nio.file.Files;
import java.nio.file.Path;
import java.util.ArrayList;
import java.util.List;
import java.util.regex.Pattern;

/** The example in README.md answers what it says, and README.md names every public method. */
public class ReadmeTest {
    private static int wrong = 0;
    private static int used = 0;

    public static void main(String[] args) throws Exception {
        String readme = Files.readString(Path.of("README.md"));
        runExample(linesOfExample(readme));
        for (Method method : WireNetwork.class.getDeclaredMethods()) {
            if (Modifier.isPublic(method.getModifiers()) && !readme.contains("`" + method.getName() + "(")) {
                complain("README.md does not tell of " + method.getName());
            }
        }
        System.out.println(used + " lines of the example, " + wrong + " things not as due");
        System.exit(wrong == 0 ? 0 : 1);
    }

    private static List<String> linesOfExample(String readme) {
        List<String> lines = new ArrayList<>();
        int begin = readme.indexOf("```java");
        int end = readme.indexOf("```", begin + 1);
        if (begin < 0 || end < 0) {
            complain("README.md has no example");
            return lines;
        }
        for (String line : readme.substring(begin, end).split("\n")) {
            if (line.startsWith("net.")) {
                lines.add(line);
            }
        }
        return lines;
    }

    /** The calls stand here a second time, as Java can't run text: each is held against its line. */
    private static void runExample(List<String> lines) {
        WireNetwork net = new WireNetwork();
        line(lines, "net.post(2048 * 1 + 300, 2, 0x1234L);", net.post(2048 * 1 + 300, 2, 0x1234L));
        line(lines, "net.filter(2, 2047, 5);", net.filter(2, 2047, 5));
        line(lines, "net.bitsOf(300, 2, 0x1234L);", net.bitsOf(300, 2, 0x1234L));
        line(lines, "net.run(40);", net.run(40));
        line(lines, "net.underWay();", net.underWay());
        line(lines, "net.disturb(1);", net.disturb(1));
        line(lines, "net.run(1);", net.run(1));
        line(lines, "net.sendErrors(1);", net.sendErrors(1));
        line(lines, "net.wire();", net.wire());
        line(lines, "net.run(17 + 61);", net.run(17 + 61));
        line(lines, "net.frameAt(0, 0);", net.frameAt(0, 0));
        line(lines, "net.dataAt(0, 0);", net.dataAt(0, 0));
        line(lines, "net.take(2);", net.take(2));
        if (used != lines.size()) {
            complain("the example has " + lines.size() + " calls, of which " + used + " were made here");
        }
    }

    private static void line(List<String> lines, String call, long answer) {
        String line = used < lines.size() ? lines.get(used) : "";
        used++;
        if (!line.matches(Pattern.quote(call) + " +// " + answer + "(:.*)?")) {
            complain(call + " answered " + answer + ", but README.md says: " + line);
        }
    }

    private static void complain(String text) {
        System.out.println(text);
        wrong++;
    }
}
