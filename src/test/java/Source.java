import java.io.IOException;
import java.nio.file.Files;
import java.nio.file.Path;
import java.util.ArrayList;
import java.util.List;
import java.util.regex.Matcher;
import java.util.regex.Pattern;

/** The text of CobbleWorld.java, without its comments and what its texts hold. */
final class Source {
    static final Path FILE = Path.of("src/main/java/CobbleWorld.java");

    private static final Pattern TEXT_OR_COMMENT =
            Pattern.compile("\"(?:\\\\.|[^\"\\\\])*\"|/\\*.*?\\*/|//[^\\n]*", Pattern.DOTALL);
    private static final Pattern HEAD = Pattern.compile(
            "^ {4}(?: {4})?(?:(?:public|private|static|final) )*[\\w\\[\\]]+ (\\w+)\\([^)]*\\)[^{;]*\\{",
            Pattern.MULTILINE);

    /** A method, or the constructor: its name, and its text from the head to the last brace. */
    record Method(String name, String text) {
        boolean calls(String other) {
            String body = text.substring(text.indexOf('{'));
            return Pattern.compile("\\b" + other + "\\(").matcher(body).find();
        }
    }

    private Source() {
    }

    static String plain() throws IOException {
        Matcher found = TEXT_OR_COMMENT.matcher(Files.readString(FILE));
        return found.replaceAll(match -> match.group().startsWith("\"") ? "\"\"" : " ");
    }

    static List<Method> methods() throws IOException {
        String source = plain();
        List<Method> methods = new ArrayList<>();
        Matcher head = HEAD.matcher(source);
        while (head.find()) {
            int end = closing(source, head.end());
            methods.add(new Method(head.group(1), source.substring(head.start(), end)));
        }
        return methods;
    }

    /** The place behind the brace that closes the one just ahead of `from`. */
    private static int closing(String source, int from) {
        int open = 1;
        int place = from;
        while (open > 0) {
            char sign = source.charAt(place);
            open += sign == '{' ? 1 : sign == '}' ? -1 : 0;
            place++;
        }
        return place;
    }
}
