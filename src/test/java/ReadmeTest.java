import java.io.File;
import java.io.IOException;
import java.nio.file.Files;
import java.util.regex.Matcher;
import java.util.regex.Pattern;

/** The calls that README.md shows, in their order on one object, answer what it says behind each. */
public final class ReadmeTest {
    private static final Check T = new Check();
    private static final Pattern TEXT = Pattern.compile("byte\\[\\] told = \"([^\"]*)\"");
    private static final Pattern LENGTH = Pattern.compile("byte\\[\\] text = new byte\\[(\\d+)\\]");
    private static final Pattern CALL =
            Pattern.compile("(?m)^island\\.(\\w+)\\(([-\\d, ]*|text\\.length)\\); *// (?:(-?\\d+):|throws (\\w+)|)");

    public static void main(String[] args) throws IOException {
        T.promise("README.md");
        File readme = new File("README.md");
        if (!readme.exists()) {
            T.report("run from the project's directory: no " + readme);
        } else {
            calls(Files.readString(readme.toPath()));
        }
        Check.end();
    }

    private static void calls(String text) {
        Matcher told = TEXT.matcher(text);
        Matcher length = LENGTH.matcher(text);
        if (!told.find() || !length.find()) {
            T.report("no text of an island");
            return;
        }
        String bytes = length.group(1);
        T.face.feed(told.group(1).getBytes());
        T.same("what is on the tape", bytes, T.face.call("count", 10));
        int many = 0;
        for (Matcher m = CALL.matcher(text); m.find(); many++) {
            call(m, bytes);
        }
        if (many < 20) {
            T.report("only " + many + " calls were found");
        }
    }

    private static void call(Matcher m, String bytes) {
        String within = m.group(2).replace("text.length", bytes).trim();
        String[] words = within.isEmpty() ? new String[0] : within.split(", *");
        long[] args = new long[words.length];
        for (int i = 0; i < args.length; i++) {
            args[i] = Long.parseLong(words[i]);
        }
        String due = m.group(3) != null ? m.group(3) : m.group(4) != null ? "throws." + m.group(4) : "null";
        T.due(due, m.group(1), args);
    }
}
