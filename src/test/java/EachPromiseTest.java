import java.io.IOException;
import java.nio.file.Files;
import java.nio.file.Path;
import java.util.regex.Matcher;
import java.util.regex.Pattern;

/** Each promise of DOC.md has a test of its own, which .ci/run finds by its name. */
public final class EachPromiseTest {
    public static void main(String[] args) throws IOException {
        Path here = Path.of(args.length > 0 ? args[0] : ".", "src/test/java");
        String doc = Files.readString(Path.of(args.length > 1 ? args[1] : "../shared", "DOC.md"));
        Matcher heads = Pattern.compile("(?m)^## Promise (\\d+): ").matcher(doc);
        int promises = 0;
        while (heads.find()) {
            promises++;
            int number = Integer.parseInt(heads.group(1));
            String name = String.format("Promise%02dTest", number);
            Path file = here.resolve(name + ".java");
            boolean holds = Files.exists(file)
                    && Files.readString(file).contains("Sentences.ofPromise(" + number + ", args)");
            Check.due(name + " is there and holds its promise", holds ? 1 : 0, 1);
        }
        Check.due("promises", promises, 37);
        Check.finish("EachPromiseTest");
    }
}
