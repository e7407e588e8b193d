import java.nio.charset.StandardCharsets;
import java.util.List;

/**
 * All promises: no call ever throws or fails to end, whatever it is told and whatever came before. MODULES and PROGRAMS
 * with some bytes changed, left out or put in are told, and all that can be asked is asked, near each bound and far off.
 */
public final class NeverThrowsTest {
  private static final int OBJECTS = 150;
  private static final int[] NEAR = {-3, -2, -1, 0, 1, 2, 3, 7, 8, 9, 59, 60, 99, 100, 101, 4000, 4001, 19999, 20000, 20001,
      65535, 65536, 131071, 131072, Integer.MIN_VALUE, Integer.MAX_VALUE};
  private static final String SIGNS = "(),:;=+-*/%<&|>ab1 in let if";

  private long state = 88172645463325252L;
  private final List<byte[]> modules = AnewTest.modules();

  public static void main(String[] args) {
    Due due = Due.begin();
    NeverThrowsTest test = new NeverThrowsTest();
    int calls = 0;
    for (int k = 0; k < OBJECTS; k++) {
      calls += test.object(due);
    }
    due.is("objects were asked much", calls > 100 * OBJECTS ? 1 : 0, 1);
    due.end("NeverThrowsTest");
  }

  /** A row of numbers that is the same at any time. */
  private int number(int below) {
    state ^= state << 13;
    state ^= state >>> 7;
    state ^= state << 17;
    return (int) ((state >>> 1) % below);
  }

  private int near() {
    return NEAR[number(NEAR.length)];
  }

  private byte[] changed(byte[] bytes, boolean text) {
    byte[] all = bytes.clone();
    int times = number(4);
    for (int k = 0; k < times && all.length > 0; k++) {
      int at = number(all.length);
      byte other = text ? (byte) SIGNS.charAt(number(SIGNS.length())) : (byte) number(256);
      switch (number(3)) {
        case 0:
          all[at] = other;
          break;
        case 1:
          all = Due.join(java.util.Arrays.copyOf(all, at), java.util.Arrays.copyOfRange(all, at + 1, all.length));
          break;
        default:
          all = Due.join(java.util.Arrays.copyOf(all, at), Due.bytes(other), java.util.Arrays.copyOfRange(all, at, all.length));
          break;
      }
    }
    return all;
  }

  private int object(Due due) {
    FoldForge x = new FoldForge();
    int calls = 0;
    try {
      while (calls < 400) {
        calls += number(8) == 0 ? tell(x) : ask(x);
      }
    } catch (RuntimeException | StackOverflowError thrown) {
      due.is("call " + calls + " threw " + thrown, 1, 0);
    }
    due.is("it answers still", x.argument(0, 1), 1);
    return calls;
  }

  /** A MODULE or a PROGRAM; how many calls that took. */
  private int tell(FoldForge x) {
    boolean text = number(2) == 0;
    byte[] bytes = text ? AnewTest.PROGRAMS[number(AnewTest.PROGRAMS.length)].getBytes(StandardCharsets.ISO_8859_1)
        : modules.get(number(modules.size()));
    bytes = changed(bytes, text);
    Due.feed(x, bytes);
    int n = number(20) == 0 ? near() : bytes.length;
    if (number(20) == 0 ? !text : text) {
      x.program(n);
    } else {
      x.module(n);
    }
    return bytes.length / 20 + 2;
  }

  private int ask(FoldForge x) {
    switch (number(12)) {
      case 0: x.feed(near(), near(), near(), near(), near()); break;
      case 1: x.count(near()); break;
      case 2: x.export(number(4), near()); break;
      case 3: x.export(near(), number(6) - 2); break;
      case 4: x.argument(number(10) - 1, number(3) == 0 ? (long) near() << 20 : number(4)); break;
      case 5: x.run(number(3), near()); break;
      case 6: x.run(number(3), number(300)); break;
      case 7: x.call(number(3)); break;
      case 8: x.outcome(near()); break;
      case 9: x.global(near()); break;
      case 10: x.memory(near()); break;
      default: x.table(near()); x.spent(near()); x.place(); x.run(near(), near()); x.call(near()); break;
    }
    return 1;
  }
}
