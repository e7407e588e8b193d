import java.io.ByteArrayOutputStream;
import java.nio.charset.StandardCharsets;

/** What the tests share: answers compared with what is due, bytes put on THE TAPE, MODULES made. */
final class Due {
  private int wrong = 0;
  private int asked = 0;
  private String sentence = "";
  private int sentences = 0;
  private int askedBefore = 0;

  void is(String call, long got, long want) {
    asked++;
    if (got != want) {
      wrong++;
      System.out.println(sentence + call + " answered " + got + ", due is " + want);
    }
  }

  /** What is asked from here on tests this sentence of the document, given in its own words. */
  void sentence(String words) {
    endSentence();
    sentence = "[" + words + "] ";
    sentences++;
  }

  /** A sentence of which nothing was asked is not tested. */
  private void endSentence() {
    if (sentences > 0 && asked == askedBefore) {
      wrong++;
      System.out.println(sentence + "has no test");
    }
    askedBefore = asked;
  }

  void end(String name) {
    endSentence();
    String told = sentences > 0 ? sentences + " sentences, " : "";
    System.out.println(name + ": " + told + asked + " answers, " + wrong + " not as due");
    if (wrong != 0) {
      System.exit(1);
    }
  }

  /** Feeds the bytes, filled up with 0 to whole pieces of twenty. */
  static void feed(FoldForge x, byte[] bytes) {
    for (int from = 0; from < bytes.length; from += 20) {
      int[] five = new int[5];
      for (int k = 0; k < 20; k++) {
        int b = from + k < bytes.length ? bytes[from + k] & 255 : 0;
        five[k / 4] = five[k / 4] << 8 | b;
      }
      x.feed(five[0], five[1], five[2], five[3], five[4]);
    }
  }

  static int module(FoldForge x, byte[] bytes) {
    feed(x, bytes);
    return x.module(bytes.length);
  }

  /** What a new object answers to a MODULE, and the place that it tells then. */
  void module(String what, byte[] bytes, int answer, int place) {
    FoldForge x = new FoldForge();
    is(what + ": module", module(x, bytes), answer);
    is(what + ": place", x.place(), place);
  }

  static int program(FoldForge x, String text) {
    byte[] bytes = text.getBytes(StandardCharsets.ISO_8859_1);
    feed(x, bytes);
    return x.program(bytes.length);
  }

  static byte[] bytes(int... numbers) {
    byte[] made = new byte[numbers.length];
    for (int k = 0; k < numbers.length; k++) {
      made[k] = (byte) numbers[k];
    }
    return made;
  }

  static byte[] join(byte[]... parts) {
    ByteArrayOutputStream all = new ByteArrayOutputStream();
    for (byte[] part : parts) {
      all.write(part, 0, part.length);
    }
    return all.toByteArray();
  }

  static byte[] unsigned(long n) {
    ByteArrayOutputStream all = new ByteArrayOutputStream();
    do {
      int low = (int) (n & 127);
      n >>>= 7;
      all.write(n != 0 ? low | 128 : low);
    } while (n != 0);
    return all.toByteArray();
  }

  static byte[] signed(long n) {
    ByteArrayOutputStream all = new ByteArrayOutputStream();
    boolean more = true;
    while (more) {
      int low = (int) (n & 127);
      n >>= 7;
      more = !((n == 0 && (low & 64) == 0) || (n == -1 && (low & 64) != 0));
      all.write(more ? low | 128 : low);
    }
    return all.toByteArray();
  }

  static byte[] header() {
    return bytes(0, 97, 115, 109, 1, 0, 0, 0);
  }

  /** A VEC of things, each written out. */
  static byte[] vec(byte[]... things) {
    return join(unsigned(things.length), join(things));
  }

  static byte[] section(int id, byte[] content) {
    return join(bytes(id), unsigned(content.length), content);
  }

  /** A TYPE: what it takes, and what it gives (0: nothing). */
  static byte[] type(int gives, int... takes) {
    return join(bytes(96), unsigned(takes.length), bytes(takes),
        gives == 0 ? bytes(0) : bytes(1, gives));
  }

  static byte[] export(String name, int kind, int number) {
    byte[] signs = name.getBytes(StandardCharsets.ISO_8859_1);
    return join(unsigned(signs.length), signs, bytes(kind), unsigned(number & 0xFFFFFFFFL));
  }

  /** A CODE: its LOCALS (a VEC, written out), then its INSTRUCTIONS with the closing 11. */
  static byte[] code(byte[] locals, byte[] instructions) {
    byte[] all = join(locals, instructions, bytes(11));
    return join(unsigned(all.length), all);
  }

  static byte[] code(int... instructions) {
    return code(bytes(0), bytes(instructions));
  }

  /** A MODULE of one exported FUNCTION "f" without LOCALS, a MEMORY of one page. */
  static byte[] one(int gives, int[] takes, byte[] instructions) {
    return join(header(), section(1, vec(type(gives, takes))), section(3, bytes(1, 0)),
        section(5, bytes(1, 0, 1)), section(7, vec(export("f", 0, 0))),
        section(10, vec(code(bytes(0), instructions))));
  }

  static int[] takes(int... types) {
    return types;
  }

  private Due() {
  }

  static Due begin() {
    return new Due();
  }
}
