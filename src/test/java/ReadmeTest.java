import java.io.IOException;
import java.nio.file.Files;
import java.nio.file.Path;
import java.util.List;
import java.util.regex.Matcher;
import java.util.regex.Pattern;

/** What README.md says of the use: its example answers as it says, and it names every public call. */
public final class ReadmeTest {
  private static final Pattern NEW_POOL = Pattern.compile("\\s*EntropyPool pool = new EntropyPool\\(\\);.*");
  private static final Pattern CALL = Pattern.compile("\\s*pool\\.(\\w+)\\((-?\\d*)\\);\\s*// (-?\\d+): .*");

  public static void main(String[] args) throws IOException {
    List<String> lines = Files.readAllLines(Path.of("README.md"));
    exampleAnswersAsItSays(lines);
    everyCallIsNamed(String.join("\n", lines));
    Check.end();
  }

  private static void exampleAnswersAsItSays(List<String> lines) {
    EntropyPool pool = null;
    int calls = 0;
    for (String line : lines) {
      Matcher call = CALL.matcher(line);
      if (NEW_POOL.matcher(line).matches()) {
        pool = new EntropyPool();
      } else if (call.matches()) {
        calls++;
        Check.due("README.md: " + line.strip(), answer(pool, call.group(1), call.group(2)), Long.parseLong(call.group(3)));
      } else {
        // A call in another form would go untested.
        Check.isTrue("the test can read: " + line, !line.strip().startsWith("pool."));
      }
    }
    Check.isTrue("README.md has an example of calls", calls > 0);
  }

  private static long answer(EntropyPool pool, String name, String argument) {
    switch (name) {
      case "mix":
        return pool.mix(Integer.parseInt(argument));
      case "credit":
        return pool.credit(Integer.parseInt(argument));
      case "extract":
        return pool.extract(Integer.parseInt(argument));
      case "available":
        return pool.available();
      default:
        throw new IllegalArgumentException("README.md calls " + name);
    }
  }

  private static void everyCallIsNamed(String text) {
    String[] calls = {"new EntropyPool()", "int mix(int word)", "int credit(int bits)", "long extract(int bits)", "int available()"};
    for (String call : calls) {
      Check.isTrue("README.md names " + call, text.contains(call));
    }
  }
}
