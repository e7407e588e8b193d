import java.io.IOException;
import java.nio.file.Files;
import java.nio.file.Path;
import java.util.regex.Matcher;
import java.util.regex.Pattern;

/** README.md tells calls and their answers: the class answers so. It is run from where README.md stands. */
public final class ReadmeTest {
  private static final Pattern CALL = Pattern.compile("x\\.([a-z]+)\\((.*)\\); *// (-?\\d+)(:.*)?");

  public static void main(String[] args) throws IOException {
    Due due = Due.begin();
    FoldForge x = null;
    int calls = 0;
    for (String line : Files.readAllLines(Path.of("README.md"))) {
      if (line.equals("FoldForge x = new FoldForge();")) {
        x = new FoldForge();
      }
      Matcher told = CALL.matcher(line);
      if (told.matches()) {
        due.is(line, answer(x, told.group(1), numbers(told.group(2))), Long.parseLong(told.group(3)));
        calls++;
      } else {
        due.is("README.md tells what is answered in: " + line, line.startsWith("x.") ? 1 : 0, 0);
      }
    }
    due.is("README.md tells calls", calls > 15 ? 1 : 0, 1);
    due.end("ReadmeTest");
  }

  private static long[] numbers(String told) {
    String[] parts = told.isEmpty() ? new String[0] : told.split(", *");
    long[] numbers = new long[parts.length];
    for (int k = 0; k < parts.length; k++) {
      numbers[k] = Long.decode(parts[k]);
    }
    return numbers;
  }

  private static long answer(FoldForge x, String call, long[] with) {
    return switch (call) {
      case "feed" -> x.feed((int) with[0], (int) with[1], (int) with[2], (int) with[3], (int) with[4]);
      case "module" -> x.module((int) with[0]);
      case "place" -> x.place();
      case "export" -> x.export((int) with[0], (int) with[1]);
      case "argument" -> x.argument((int) with[0], with[1]);
      case "run" -> x.run((int) with[0], (int) with[1]);
      case "outcome" -> x.outcome((int) with[0]);
      case "program" -> x.program((int) with[0]);
      case "call" -> x.call((int) with[0]);
      case "spent" -> x.spent((int) with[0]);
      default -> throw new IllegalArgumentException(call);
    };
  }
}
