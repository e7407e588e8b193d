import java.nio.charset.StandardCharsets;
import java.util.Arrays;

/** Promises 1 to 4 and 13: the bounds of THE TAPE and of how much of it is taken, a sentence at a time. */
public final class BoundsOfTapeTest {
  private static final String FUN = "fun f(a: int): int = a + 1;";

  public static void main(String[] args) {
    Due due = Due.begin();
    fourThousand(due);
    noRoom(due);
    highestFirst(due);
    calls512(due);
    dearCalls512(due);
    newObject(due);
    moduleLength(due);
    moduleEmptiesTape(due);
    moduleStays(due);
    place(due);
    programLength(due);
    programEmptiesTape(due);
    programStays(due);
    due.end("BoundsOfTapeTest");
  }

  /** A MODULE of as many bytes as told (from 130 on): a SECTION 0 fills it. */
  private static byte[] moduleOf(int bytes) {
    byte[] rest = new byte[bytes - 8 - 3];
    Arrays.fill(rest, 1, rest.length, (byte) 255);
    return Due.join(Due.header(), Due.section(0, rest));
  }

  private static byte[] programOf(int bytes) {
    StringBuilder all = new StringBuilder(FUN);
    while (all.length() < bytes) {
      all.insert(all.length() - 1, ' ');
    }
    return all.toString().getBytes(StandardCharsets.ISO_8859_1);
  }

  private static void fourThousand(Due due) {
    due.sentence("THE TAPE takes bytes, 4000 at most.");
    FoldForge x = new FoldForge();
    for (int k = 1; k <= 200; k++) {
      due.is("feed " + k, x.feed(0, 0, 0, 0, 0), 20 * k);
    }
    due.is("feed 201", x.feed(0, 0, 0, 0, 0), -1);
    due.module("a MODULE of 4000 bytes", moduleOf(4000), 1, -1);
    byte[] broken = moduleOf(4000);
    broken[9]++;
    due.module("a MODULE of 4000 bytes whose SECTION would have 4001", broken, -1, 9);
    FoldForge y = new FoldForge();
    Due.feed(y, programOf(4000));
    due.is("a PROGRAM of 4000 bytes", y.program(4000), 1);
    byte[] open = programOf(4000);
    open[3999] = ' ';
    Due.feed(y, open);
    due.is("a PROGRAM that is open at its 4000th byte", y.program(4000), -4001);
  }

  private static void noRoom(Due due) {
    due.sentence("-1, and none comes: no room.");
    FoldForge x = new FoldForge();
    byte[] module = moduleOf(4000);
    Due.feed(x, Arrays.copyOf(module, 3980));
    byte[] last = Arrays.copyOfRange(module, 3980, 4000);
    int[] five = new int[5];
    for (int k = 0; k < 20; k++) {
      five[k / 4] = five[k / 4] << 8 | (last[k] & 255);
    }
    due.is("the last twenty", x.feed(five[0], five[1], five[2], five[3], five[4]), 4000);
    for (int k = 0; k < 3; k++) {
      due.is("no room", x.feed(-1, -1, -1, -1, -1), -1);
    }
    due.is("none came behind", x.module(4001), 0);
    due.is("none came over what there was", x.module(4000), 1);
    due.is("room again", x.feed(0, 0, 0, 0, 0), 20);
  }

  private static void highestFirst(Due due) {
    due.sentence("Twenty bytes come onto THE TAPE: four in each number, the highest first: how many it has.");
    FoldForge x = new FoldForge();
    // a FUNCTION that gives a memory's bytes is not needed: a name's bytes tell which came, and where
    due.is("feed", x.feed(0x0061736D, 0x01000000, 0x05030100, 0x00070C01, 0x08FF807F), 20);
    due.is("feed", x.feed(0x00010203, 0xFE020000, 0, 0, 0), 40);
    due.is("module", x.module(27), 1);
    int[] name = {255, 128, 127, 0, 1, 2, 3, 254};
    for (int k = 0; k < 8; k++) {
      due.is("byte " + k, x.export(0, 3 + k), name[k]);
    }
  }

  private static void calls512(Due due) {
    due.sentence("An object is used for at most 512 calls after it has been made;");
    FoldForge x = new FoldForge();
    byte[] adds = new Built().type(127, 127).function(0, 35, 0, 32, 0, 106, 36, 0, 35, 0).global(127, 1, 65, 0)
        .export("f", 0, 0).bytes();
    int calls = (adds.length + 19) / 20 + 1;
    due.is("module", Due.module(x, adds), 1);
    x.argument(0, 3);
    calls++;
    int runs = 0;
    while (calls < 511) {
      due.is("run", x.run(0, 5), 0);
      runs++;
      calls++;
    }
    due.is("the 512th call", x.outcome(0), 3 * runs);
  }

  /** 512 calls, each of which has the most to do. */
  private static void dearCalls512(Due due) {
    due.sentence("what later calls answer is free.");
    FoldForge x = new FoldForge();
    byte[] loop = Due.one(0, Due.takes(), Due.bytes(3, 64, 12, 0, 11));
    for (int k = 0; k < 150; k++) {
      int answer = Due.module(x, loop);
      due.is("module", answer, 1);
      due.is("run", x.run(0, 20000), 1);
    }
    due.is("STEPS", x.outcome(1), 20000);
  }

  private static void newObject(Due due) {
    due.sentence("`FoldForge()`: Nothing.");
    FoldForge x = new FoldForge();
    due.is("module(1)", x.module(1), 0);
    due.is("program(1)", x.program(1), 0);
    due.is("place()", x.place(), -1);
    due.is("count(0)", x.count(0), -1);
    due.is("run(0, 0)", x.run(0, 0), -1);
    due.is("call(0)", x.call(0), -1);
  }

  private static void moduleLength(Due due) {
    due.sentence("0: n is not 0 .. how many bytes (nothing happens).");
    FoldForge x = new FoldForge();
    due.is("0 of 0", x.module(0), -1);
    due.is("1 of 0", x.module(1), 0);
    byte[] module = moduleOf(140);
    Due.feed(x, module);
    for (int n : new int[] {-1, 141, 142, 4000, 4001, Integer.MIN_VALUE, Integer.MAX_VALUE}) {
      due.is("module(" + n + ") of 140", x.module(n), 0);
      due.is("place() is as it was", x.place(), 0);
      due.is("count(0) is as it was", x.count(0), -1);
    }
    due.is("140 of 140", x.module(140), 1);
    Due.feed(x, module);
    due.is("139 of 140", x.module(139), -1);
    due.is("place()", x.place(), 9);
    Due.feed(x, module);
    due.is("0 of 140", x.module(0), -1);
    due.is("place()", x.place(), 0);
  }

  private static void moduleEmptiesTape(Due due) {
    due.sentence("The first n bytes of THE TAPE, which is empty then, are a MODULE: 1, it is the MODULE.");
    FoldForge x = new FoldForge();
    byte[][] all = {Due.header(), Raw.after(12), Raw.after(2), new Built().type(0).function(1).bytes(),
        new Built().table(1).element(65, 2).bytes(), new byte[0]};
    int[] answers = {1, -1, -2, -3, -4, -1};
    for (int k = 0; k < all.length; k++) {
      Due.feed(x, all[k]);
      Due.feed(x, Due.header());
      due.is("module", x.module(all[k].length), answers[k]);
      due.is("nothing is left", x.module(1), 0);
      due.is("nothing is left", x.program(1), 0);
      due.is("empty", x.feed(0, 0, 0, 0, 0), 20);
      due.is("module(20)", x.module(20), -1);
    }
    due.is("the first one is the MODULE", x.count(0), 0);
  }

  private static void moduleStays(Due due) {
    due.sentence("Else the MODULE stays: -1 MALFORMED, -2 REFUSED, -3 INVALID, -4 a TRAP as it is MADE.");
    byte[] kept = new Built().type(0).table(3).memory(1, 1).global(127, 0, 65, 7).bytes();
    byte[][] others = {Raw.after(5, 3, 1, 0, 0, 12), Raw.after(5, 3, 1, 0, 0, 8),
        new Built().memory(0).export("a", 0, 0).bytes(), new Built().memory(0).table(1).element(65, 2).bytes()};
    for (int k = 0; k < 4; k++) {
      FoldForge x = new FoldForge();
      due.is("none yet", Due.module(x, others[k]), -1 - k);
      due.is("none yet: count(0)", x.count(0), -1);
      due.is("module", Due.module(x, kept), 1);
      due.is("another", Due.module(x, others[k]), -1 - k);
      due.is("count(0)", x.count(0), 1);
      due.is("count(2)", x.count(2), 3);
      due.is("count(3)", x.count(3), 1);
      due.is("global(0)", x.global(0), 7);
    }
  }

  private static void place(Due due) {
    due.sentence("Where the latest module() was MALFORMED or REFUSED (by READING; by VALID: -1); -1 if it was not.");
    FoldForge x = new FoldForge();
    due.is("before", x.place(), -1);
    byte[][] all = {new byte[0], Raw.after(12), Due.header(), Raw.after(0, 1, 0, 2), new Built().memory(3).bytes(),
        Raw.after(2), new Built().memory(1).memory(1).bytes(), Raw.after(8), new Built().table(1).element(65, 2).bytes()};
    int[] answers = {-1, -1, 1, -2, -2, -2, -3, -2, -4};
    int[] places = {0, 8, -1, 11, -1, 8, -1, 8, -1};
    for (int k = 0; k < all.length; k++) {
      due.is("module " + k, Due.module(x, all[k]), answers[k]);
      due.is("place " + k, x.place(), places[k]);
      due.is("place " + k + " once more", x.place(), places[k]);
    }
  }

  private static void programLength(Due due) {
    due.sentence("0: n is not 1 .. how many bytes (nothing happens).");
    FoldForge x = new FoldForge();
    due.is("0 of 0", x.program(0), 0);
    due.is("1 of 0", x.program(1), 0);
    Due.feed(x, programOf(40));
    for (int n : new int[] {-1, 0, 41, 42, 4000, 4001, Integer.MIN_VALUE, Integer.MAX_VALUE}) {
      due.is("program(" + n + ") of 40", x.program(n), 0);
      due.is("no PROGRAM", x.call(0), -1);
    }
    due.is("40 of 40", x.program(40), 1);
    Due.feed(x, programOf(40));
    due.is("39 of 40", x.program(39), -40);
    Due.feed(x, programOf(40));
    due.is("1 of 40", x.program(1), -1);
  }

  private static void programEmptiesTape(Due due) {
    due.sentence("The first n bytes of THE TAPE, which is empty then, are a PROGRAM: how many DEFINITIONS, it is the"
        + " PROGRAM.");
    FoldForge x = new FoldForge();
    String[] all = {FUN, "fun", FUN.replace("+ 1", "+ b"), " "};
    int[] answers = {1, -4, -26, -2};
    for (int k = 0; k < all.length; k++) {
      Due.feed(x, all[k].getBytes(StandardCharsets.ISO_8859_1));
      Due.feed(x, programOf(40));
      due.is("program", x.program(all[k].length()), answers[k]);
      due.is("nothing is left", x.module(1), 0);
      due.is("nothing is left", x.program(1), 0);
      due.is("empty", x.feed(0, 0, 0, 0, 0), 20);
      due.is("program(20)", x.program(20), -1);
    }
    due.is("the first one is the PROGRAM", x.call(0), 0);
  }

  private static void programStays(Due due) {
    due.sentence("Else the PROGRAM stays: -1 less the place of its fault.");
    FoldForge x = new FoldForge();
    due.is("none yet", Due.program(x, "fun f(a: int): int = b;"), -22);
    due.is("none yet: call", x.call(0), -1);
    due.is("program", Due.program(x, FUN), 1);
    for (String ill : new String[] {"fun f(a: int): int = b;", "fun f(a: int): int = ^", "fun f(a: int): int ="}) {
      due.is(ill, Due.program(x, ill), ill.length() == 20 ? -21 : -22);
      x.argument(0, 41);
      due.is("call", x.call(0), 0);
      due.is("gives", x.outcome(0), 42);
      due.is("call of what was not kept", x.call(1), -1);
    }
    due.is("a fault at the first byte", Due.program(x, "1"), -1);
  }
}
