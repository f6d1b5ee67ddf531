import java.io.IOException;
import java.nio.file.Files;
import java.nio.file.Path;
import java.util.regex.Matcher;
import java.util.regex.Pattern;

/**
 * Writes ReadmeTest: the java blocks of README.md in their order, each call with the answer that
 * stands behind it. A line of a block that is neither a call with its answer nor part of a method
 * is refused, so nothing on the page goes unlooked at.
 */
public final class ReadmeCalls {
    private static final Pattern BLOCK = Pattern.compile("(?ms)^```java\\n(.*?)^```$");
    private static final Pattern CALL = Pattern.compile("((?:x\\.\\w+|tell)\\(.*\\)); *// (-?\\d+)(?::.*)?");
    private static final String NEW = "LastLoses x = new LastLoses();";

    private final StringBuilder calls = new StringBuilder();
    private final StringBuilder methods = new StringBuilder();
    private int wrong;

    public static void main(String[] args) throws IOException {
        if (args.length < 2) {
            System.out.println("ReadmeCalls README.md ReadmeTest.java");
            System.exit(2);
        }
        ReadmeCalls page = new ReadmeCalls();
        Matcher blocks = BLOCK.matcher(Files.readString(Path.of(args[0])));
        while (blocks.find()) {
            page.takeBlock(blocks.group(1));
        }
        Files.writeString(Path.of(args[1]), page.source());
        System.exit(page.wrong == 0 ? 0 : 1);
    }

    private void takeBlock(String block) {
        if (block.startsWith("int ")) {
            methods.append("    static ").append(block);
            return;
        }
        for (String line : block.split("\n")) {
            takeLine(line);
        }
    }

    private void takeLine(String line) {
        Matcher call = CALL.matcher(line);
        if (line.equals(NEW)) {
            calls.append("        ").append(line).append('\n');
        } else if (call.matches()) {
            String told = call.group(1).replace("\"", "'");
            calls.append("        Check.due(\"").append(told).append("\", ");
            calls.append(call.group(1)).append(", ").append(call.group(2)).append(");\n");
        } else {
            wrong++;
            System.out.println("README.md: no call with its answer: " + line);
        }
    }

    private String source() {
        return "public final class ReadmeTest {\n"
                + "    public static void main(String[] args) {\n" + calls
                + "        Check.finish(\"ReadmeTest\");\n    }\n\n" + methods + "}\n";
    }
}
