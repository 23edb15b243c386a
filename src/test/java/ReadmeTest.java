import java.io.IOException;
import java.nio.file.Files;
import java.nio.file.Path;
import java.util.HashMap;
import java.util.Map;
import java.util.regex.Matcher;
import java.util.regex.Pattern;

/** The calls of README.md's example answer what the example says (it is looked for where the test is run). */
public final class ReadmeTest {
    private static final Pattern BLOCK = Pattern.compile("```java\n(.*?)```", Pattern.DOTALL);
    private static final Pattern CALL = Pattern.compile("(?:int (\\w+) = )?db\\.(\\w+)\\((.*?)\\);(?:\\s*// ([-\\w]+).*)?");
    private static final Map<String, String> EXCEPTIONS = Map.of("IndexOutOfBoundsException", "bounds",
        "IllegalArgumentException", "argument", "IllegalStateException", "state");

    public static void main(String[] args) throws IOException {
        Matcher block = BLOCK.matcher(Files.readString(Path.of("README.md")));
        if (!block.find()) {
            System.out.println("README.md has no example");
            System.exit(1);
        }
        Map<String, String> names = new HashMap<>(Map.of("true", "1", "false", "0"));
        Face face = new Program();
        int wrong = 0;
        for (String line : block.group(1).split("\n")) {
            if (!line.isEmpty() && !line.equals("TabStore db = new TabStore();")) {
                wrong += isRight(line, face, names) ? 0 : 1;
            }
        }
        System.exit(wrong == 0 ? 0 : 1);
    }

    private static boolean isRight(String line, Face face, Map<String, String> names) {
        Matcher call = CALL.matcher(line);
        if (!call.matches()) {
            System.out.println("this line cannot be read: " + line);
            return false;
        }
        StringBuilder text = new StringBuilder(call.group(2));
        for (String argument : call.group(3).split(", ")) {
            text.append(' ').append(names.getOrDefault(argument, argument));
        }
        String got = Call.read(text.toString()).answerOf(face);
        if (call.group(1) != null) {
            names.put(call.group(1), got);
        }
        String said = call.group(4) == null ? "" : call.group(4);
        // What a call without an answer does may be told in any words.
        boolean isRight = got.equals("ok") || got.equals(EXCEPTIONS.getOrDefault(said, said));
        if (!isRight) {
            System.out.println("answered " + got + ": " + line);
        }
        return isRight;
    }
}
